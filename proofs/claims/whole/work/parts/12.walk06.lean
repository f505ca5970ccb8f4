abbrev YX11_mark : mY := (RX11, "mark", cX11_mark, 3, (some .boolean), none)
set_option maxHeartbeats 400000 in
set_option maxRecDepth 20000 in
theorem t_X11_mark {G : mg} {F : Nat} {a1 : Int32} {a2 : Int32} {M : mm} {x : Bool} {M' : mm} (d : Nat) (h : m_X11_mark F a1 a2 M = some (x, M')) : CM G yX11_mark cX11_mark 3 (some .boolean) (d + 2) [vR 12 0, vI a1, vI a2] M (some (vI (bI x))) M' := by
  refine ct_z (ls := [some (vR 12 0), some (vI a1), some (vI a2)]) rfl rfl (Nat.le_of_ble_eq_true rfl) (fun Z => ?_) h
  show SW G (d + 2) YX11_mark Z 0 [some (vR 12 0), some (vI a1), some (vI a2)] [] M _ _
  unfold m_X11_mark
  refine s_step (g_iload_n (iRow iCX11_mark_0 0 rfl) rfl rfl) ?_
  refine s_if (g_if_lt (tgt := 9) (iRow iCX11_mark_0 1 rfl) (by decide)) (fun _ => ?_) (fun _ => ?_)
  · refine s_step (g_iconst (iRow iCX11_mark_0 5 rfl) kc_0) ?_
    exact s_retz (b := false) (iRow iCX11_mark_0 6 rfl) rfl rfl
  · refine s_step (g_iload_n (iRow iCX11_mark_0 2 rfl) rfl rfl) ?_
    refine s_step (g_iconst (iRow iCX11_mark_0 3 rfl) kc_4) ?_
    refine s_if (g_icmp_lt (tgt := 11) (iRow iCX11_mark_0 4 rfl) (by decide)) (fun _ => ?_) (fun _ => ?_)
    · refine s_step (g_iload_n (iRow iCX11_mark_0 7 rfl) rfl rfl) ?_
      refine s_ifn (g_if_ne (tgt := 55) (iRow iCX11_mark_0 8 rfl) (by decide)) (fun _ => ?_) (fun _ => ?_)
      · refine s_step (g_aload_n (iRow iCX11_mark_0 9 rfl) rfl rfl) ?_
        refine s_step (g_getR (iRow iCX11_mark_0 10 rfl) f11_93 ko_12 (r_12_15 _ _)) ?_
        refine s_step (g_iload_n (iRow iCX11_mark_0 11 rfl) rfl rfl) ?_
        refine s_gi (fun h => g_aald (iRow iCX11_mark_0 12 rfl) kn_61 ka_61 (by decide) h (r_61 _ _ _) rfl (fun _ h => by cases h)) ?_
        refine s_step (g_aload_n (iRow iCX11_mark_0 13 rfl) rfl rfl) ?_
        refine s_step (g_getR (iRow iCX11_mark_0 14 rfl) f11_82 ko_12 (r_12_8 _ _)) ?_
        refine s_cv (stA := []) (fun _ h => h_V (As := [_]) (iRow iCX11_mark_0 15 rfl) l11_201 iX4_copy ko_5 rfl rfl rfl rfl (t_X4_copy (d + 1) h) rfl (by omega) (by decide) (Nat.le_of_ble_eq_true rfl)) (fun M4 => ?_)
        refine s_step (g_aload_n (iRow iCX11_mark_0 16 rfl) rfl rfl) ?_
        refine s_step (g_getR (iRow iCX11_mark_0 17 rfl) f11_96 ko_12 (r_12_16 _ _)) ?_
        refine s_step (g_iload_n (iRow iCX11_mark_0 18 rfl) rfl rfl) ?_
        refine s_gi (fun h => g_aald (iRow iCX11_mark_0 19 rfl) kn_62 ka_62 (by decide) h (r_62 _ _ _) rfl (fun _ h => by cases h)) ?_
        refine s_step (g_aload_n (iRow iCX11_mark_0 20 rfl) rfl rfl) ?_
        refine s_step (g_getR (iRow iCX11_mark_0 21 rfl) f11_22 ko_12 (r_12_10 _ _)) ?_
        refine s_cv (stA := []) (fun _ h => h_V (As := [_]) (iRow iCX11_mark_0 22 rfl) l11_340 iX8_copy ko_9 rfl rfl rfl rfl (t_X8_copy (d + 0) h) rfl (by omega) (by decide) (Nat.le_of_ble_eq_true rfl)) (fun M5 => ?_)
        refine s_step (g_aload_n (iRow iCX11_mark_0 23 rfl) rfl rfl) ?_
        refine s_step (g_dup (iRow iCX11_mark_1 0 rfl) rfl) ?_
        refine s_step (g_getI (iRow iCX11_mark_1 1 rfl) f11_119 ko_12) ?_
        refine s_step (g_iconst (iRow iCX11_mark_1 2 rfl) kc_1) ?_
        refine s_step (g_iload_n (iRow iCX11_mark_1 3 rfl) rfl rfl) ?_
        refine s_step (g_ishl (iRow iCX11_mark_1 4 rfl)) ?_
        refine s_step (g_ior (iRow iCX11_mark_1 5 rfl)) ?_
        refine s_step (g_putI (iRow iCX11_mark_1 6 rfl) f11_119 (Or.inl rfl) ko_12) ?_
        refine s_nmM (fun M6 => ?_)
        refine s_step (g_iconst (iRow iCX11_mark_1 7 rfl) kc_1) ?_
        exact s_retz (b := true) (iRow iCX11_mark_1 8 rfl) rfl rfl
      · refine s_step (g_aload_n (iRow iCX11_mark_1 9 rfl) rfl rfl) ?_
        refine s_step (g_getI (iRow iCX11_mark_1 10 rfl) f11_119 ko_12) ?_
        refine s_step (g_iload_n (iRow iCX11_mark_1 11 rfl) rfl rfl) ?_
        refine s_step (g_ishr (iRow iCX11_mark_1 12 rfl)) ?_
        refine s_step (g_iconst (iRow iCX11_mark_1 13 rfl) kc_1) ?_
        refine s_step (g_iand (iRow iCX11_mark_1 14 rfl)) ?_
        refine s_ifn (g_if_ne (tgt := 68) (iRow iCX11_mark_1 15 rfl) (by decide)) (fun _ => ?_) (fun _ => ?_)
        · refine s_step (g_iconst (iRow iCX11_mark_1 16 rfl) kc_0) ?_
          exact s_retz (b := false) (iRow iCX11_mark_1 17 rfl) rfl rfl
        · refine s_step (g_aload_n (iRow iCX11_mark_1 18 rfl) rfl rfl) ?_
          refine s_step (g_getR (iRow iCX11_mark_1 19 rfl) f11_82 ko_12 (r_12_8 _ _)) ?_
          refine s_step (g_aload_n (iRow iCX11_mark_1 20 rfl) rfl rfl) ?_
          refine s_step (g_getR (iRow iCX11_mark_1 21 rfl) f11_93 ko_12 (r_12_15 _ _)) ?_
          refine s_step (g_iload_n (iRow iCX11_mark_1 22 rfl) rfl rfl) ?_
          refine s_gi (fun h => g_aald (iRow iCX11_mark_1 23 rfl) kn_61 ka_61 (by decide) h (r_61 _ _ _) rfl (fun _ h => by cases h)) ?_
          refine s_cv (stA := []) (fun _ h => h_V (As := [_]) (iRow iCX11_mark_2 0 rfl) l11_201 iX4_copy ko_5 rfl rfl rfl rfl (t_X4_copy (d + 1) h) rfl (by omega) (by decide) (Nat.le_of_ble_eq_true rfl)) (fun M1 => ?_)
          refine s_step (g_aload_n (iRow iCX11_mark_2 1 rfl) rfl rfl) ?_
          refine s_step (g_getR (iRow iCX11_mark_2 2 rfl) f11_22 ko_12 (r_12_10 _ _)) ?_
          refine s_step (g_aload_n (iRow iCX11_mark_2 3 rfl) rfl rfl) ?_
          refine s_step (g_getR (iRow iCX11_mark_2 4 rfl) f11_96 ko_12 (r_12_16 _ _)) ?_
          refine s_step (g_iload_n (iRow iCX11_mark_2 5 rfl) rfl rfl) ?_
          refine s_gi (fun h => g_aald (iRow iCX11_mark_2 6 rfl) kn_62 ka_62 (by decide) h (r_62 _ _ _) rfl (fun _ h => by cases h)) ?_
          refine s_cv (stA := []) (fun _ h => h_V (As := [_]) (iRow iCX11_mark_2 7 rfl) l11_340 iX8_copy ko_9 rfl rfl rfl rfl (t_X8_copy (d + 0) h) rfl (by omega) (by decide) (Nat.le_of_ble_eq_true rfl)) (fun M2 => ?_)
          refine s_step (g_aload_n (iRow iCX11_mark_2 8 rfl) rfl rfl) ?_
          refine s_step (g_iconst (iRow iCX11_mark_2 9 rfl) kc_0) ?_
          refine s_step (g_putI (iRow iCX11_mark_2 10 rfl) f11_116 (Or.inl rfl) ko_12) ?_
          refine s_nmM (fun M3 => ?_)
          refine s_step (g_iconst (iRow iCX11_mark_2 11 rfl) kc_1) ?_
          exact s_retz (b := true) (iRow iCX11_mark_2 12 rfl) rfl rfl
    · refine s_step (g_iconst (iRow iCX11_mark_0 5 rfl) kc_0) ?_
      exact s_retz (b := false) (iRow iCX11_mark_0 6 rfl) rfl rfl
abbrev YX0_pairs : mY := (RX0, "pairs", cX0_pairs, 3, (some .int), none)
set_option maxHeartbeats 400000 in
set_option maxRecDepth 20000 in
theorem t_X0_pairs {G : mg} {F : Nat} {o : Nat} {M : mm} {x : Int32} {M' : mm} (d : Nat) (h : m_X0_pairs F o M = some (x, M')) : CM G yX0_pairs cX0_pairs 3 (some .int) (d + 0) [vR 1 o] M (some (vI x)) M' := by
  refine ct_i (ls := [some (vR 1 o), none, none]) rfl rfl (Nat.le_of_ble_eq_true rfl) (fun Z => ?_) h
  show SW G (d + 0) YX0_pairs Z 0 [some (vR 1 o), none, none] [] M _ _
  unfold m_X0_pairs
  refine s_step (g_iconst (iRow iCX0_pairs_0 0 rfl) kc_0) ?_
  refine s_step (g_istore_n (ls' := [some (vR 1 o), some (vI (0 : Int32)), none]) (iRow iCX0_pairs_0 1 rfl) rfl (by decide) rfl) ?_
  refine s_step (g_iconst (iRow iCX0_pairs_0 2 rfl) kc_0) ?_
  refine s_step (g_istore_n (ls' := [some (vR 1 o), some (vI (0 : Int32)), some (vI (0 : Int32))]) (iRow iCX0_pairs_0 3 rfl) rfl (by decide) rfl) ?_
  refine s_lp (fun z => [some (vR 1 o), some (vI (z.1)), some (vI (z.2))]) (fun _ => M) (fun z => LM G (d + 0) YX0_pairs Z 36 [none, some (vI z), none] [] M) rfl rfl ?_ ?_
  · rintro ⟨x1, x2⟩
    show SW G (d + 0) YX0_pairs Z 4 [some (vR 1 o), some (vI x1), some (vI x2)] [] M (b_X0_pairs_1c F o M x1 x2) _
    unfold b_X0_pairs_1c
    refine s_step (g_iload_n (iRow iCX0_pairs_0 4 rfl) rfl rfl) ?_
    refine s_step (g_aload_n (iRow iCX0_pairs_0 5 rfl) rfl rfl) ?_
    refine s_step (g_getI (iRow iCX0_pairs_0 6 rfl) f0_69 ko_1) ?_
    refine s_if (g_icmp_ge (tgt := 36) (iRow iCX0_pairs_0 7 rfl) (by decide)) (fun _ => ?_) (fun _ => ?_)
    · refine s_step (g_keep [false, true, false] rfl) ?_
      exact s_end (fun h => h)
    · refine s_step (g_iload_n (iRow iCX0_pairs_0 8 rfl) rfl rfl) ?_
      refine s_step (g_aload_n (iRow iCX0_pairs_0 9 rfl) rfl rfl) ?_
      refine s_step (g_getR (iRow iCX0_pairs_0 10 rfl) f0_37 ko_1 (r_1_10 _ _)) ?_
      refine s_step (g_iload_n (iRow iCX0_pairs_0 11 rfl) rfl rfl) ?_
      refine s_gi (fun h => g_iald (iRow iCX0_pairs_0 12 rfl) kn_28 ka_28 h) ?_
      refine s_step (g_iload_n (iRow iCX0_pairs_0 13 rfl) rfl rfl) ?_
      refine s_bd (fun z => LM G (d + 0) YX0_pairs Z 28 [some (vR 1 o), none, some (vI x2)] [vI z, vI x1] M) ?_ ?_
      · refine s_if (g_icmp_le (tgt := 27) (iRow iCX0_pairs_0 14 rfl) (by decide)) (fun _ => ?_) (fun _ => ?_)
        · refine s_step (g_iconst (iRow iCX0_pairs_0 17 rfl) kc_0) ?_
          refine s_step (g_keep [true, false, true] rfl) ?_
          exact s_end (fun h => h)
        · refine s_step (g_iconst (iRow iCX0_pairs_0 15 rfl) kc_1) ?_
          refine s_step (g_goto (tgt := 28) (iRow iCX0_pairs_0 16 rfl) (by decide)) ?_
          refine s_step (g_keep [true, false, true] rfl) ?_
          exact s_end (fun h => h)
      · rintro x3
        show SW G (d + 0) YX0_pairs Z 28 [some (vR 1 o), none, some (vI x2)] [vI x3, vI x1] M _ _
        try dsimp only
        refine s_step (g_iadd (iRow iCX0_pairs_0 18 rfl)) ?_
        refine s_nmI (fun x4 => ?_)
        refine s_step (g_istore_n (ls' := [some (vR 1 o), some (vI x4), some (vI x2)]) (iRow iCX0_pairs_0 19 rfl) rfl (by decide) rfl) ?_
        refine s_step (g_iincc (c := 1) (ls' := [some (vR 1 o), some (vI x4), some (vI (x2 + (1 : Int32)))]) (iRow iCX0_pairs_0 20 rfl) rfl kc_1 (by decide) rfl) ?_
        refine s_step (g_goto (tgt := 4) (iRow iCX0_pairs_0 21 rfl) (by decide)) ?_
        exact s_end (fun h => h)
  · rintro x5
    show SW G (d + 0) YX0_pairs Z 36 [none, some (vI x5), none] [] M _ _
    try dsimp only
    refine s_step (g_iload_n (iRow iCX0_pairs_0 22 rfl) rfl rfl) ?_
    exact s_reti (iRow iCX0_pairs_0 23 rfl) rfl
abbrev YX0_clashes : mY := (RX0, "clashes", cX0_clashes, 3, (some .int), none)
set_option maxHeartbeats 400000 in
set_option maxRecDepth 20000 in
theorem t_X0_clashes {G : mg} {F : Nat} {o : Nat} {M : mm} {x : Int32} {M' : mm} (d : Nat) (h : m_X0_clashes F o M = some (x, M')) : CM G yX0_clashes cX0_clashes 3 (some .int) (d + 1) [vR 1 o] M (some (vI x)) M' := by
  refine ct_i (ls := [some (vR 1 o), none, none]) rfl rfl (Nat.le_of_ble_eq_true rfl) (fun Z => ?_) h
  show SW G (d + 1) YX0_clashes Z 0 [some (vR 1 o), none, none] [] M _ _
  unfold m_X0_clashes
  refine s_step (g_iconst (iRow iCX0_clashes_0 0 rfl) kc_0) ?_
  refine s_step (g_istore_n (ls' := [some (vR 1 o), some (vI (0 : Int32)), none]) (iRow iCX0_clashes_0 1 rfl) rfl (by decide) rfl) ?_
  refine s_step (g_iconst (iRow iCX0_clashes_0 2 rfl) kc_0) ?_
  refine s_step (g_istore_n (ls' := [some (vR 1 o), some (vI (0 : Int32)), some (vI (0 : Int32))]) (iRow iCX0_clashes_0 3 rfl) rfl (by decide) rfl) ?_
  refine s_lp (fun z => [some (vR 1 o), some (vI (z.1)), some (vI (z.2.1))]) (fun z => z.2.2) (fun z => LM G (d + 1) YX0_clashes Z 32 [none, some (vI (z.1)), none] [] z.2) rfl rfl ?_ ?_
  · rintro ⟨x1, x2, M3⟩
    show SW G (d + 1) YX0_clashes Z 4 [some (vR 1 o), some (vI x1), some (vI x2)] [] M3 (b_X0_clashes_1c F o x1 x2 M3) _
    unfold b_X0_clashes_1c
    refine s_step (g_iload_n (iRow iCX0_clashes_0 4 rfl) rfl rfl) ?_
    refine s_step (g_aload_n (iRow iCX0_clashes_0 5 rfl) rfl rfl) ?_
    refine s_step (g_getI (iRow iCX0_clashes_0 6 rfl) f0_69 ko_1) ?_
    refine s_if (g_icmp_ge (tgt := 32) (iRow iCX0_clashes_0 7 rfl) (by decide)) (fun _ => ?_) (fun _ => ?_)
    · refine s_step (g_keep [false, true, false] rfl) ?_
      exact s_end (fun h => h)
    · refine s_step (g_iload_n (iRow iCX0_clashes_0 8 rfl) rfl rfl) ?_
      refine s_step (g_aload_n (iRow iCX0_clashes_0 9 rfl) rfl rfl) ?_
      refine s_step (g_getR (iRow iCX0_clashes_0 10 rfl) f0_40 ko_1 (r_1_11 _ _)) ?_
      refine s_step (g_iload_n (iRow iCX0_clashes_0 11 rfl) rfl rfl) ?_
      refine s_gi (fun h => g_iald (iRow iCX0_clashes_0 12 rfl) kn_29 ka_29 h) ?_
      refine s_step (g_iload_n (iRow iCX0_clashes_0 13 rfl) rfl rfl) ?_
      refine s_step (g_ishr (iRow iCX0_clashes_0 14 rfl)) ?_
      refine s_cl (sf := fun x => vI x :: [vI x1]) (fun _ _ h => h_S (As := [_]) (iRow iCX0_clashes_0 15 rfl) l0_105 iJ6_bitCount_0f7a4 rfl rfl (t_J6_bitCount_0f7a4 (d + 0) h) rfl (by omega) (by decide) (Nat.le_of_ble_eq_true rfl)) (fun x5 M4 => ?_)
      refine s_step (g_iadd (iRow iCX0_clashes_0 16 rfl)) ?_
      refine s_nmI (fun x6 => ?_)
      refine s_step (g_istore_n (ls' := [some (vR 1 o), some (vI x6), some (vI x2)]) (iRow iCX0_clashes_0 17 rfl) rfl (by decide) rfl) ?_
      refine s_step (g_iincc (c := 1) (ls' := [some (vR 1 o), some (vI x6), some (vI (x2 + (1 : Int32)))]) (iRow iCX0_clashes_0 18 rfl) rfl kc_1 (by decide) rfl) ?_
      refine s_step (g_goto (tgt := 4) (iRow iCX0_clashes_0 19 rfl) (by decide)) ?_
      exact s_end (fun h => h)
  · rintro ⟨x7, M8⟩
    show SW G (d + 1) YX0_clashes Z 32 [none, some (vI x7), none] [] M8 _ _
    try dsimp only
    refine s_step (g_iload_n (iRow iCX0_clashes_0 20 rfl) rfl rfl) ?_
    exact s_reti (iRow iCX0_clashes_0 21 rfl) rfl
abbrev YX11_count : mY := (RX11, "count", cX11_count, 2, (some .int), none)
set_option maxHeartbeats 400000 in
set_option maxRecDepth 20000 in
theorem t_X11_count {G : mg} {F : Nat} {a1 : Int32} {M : mm} {x : Int32} {M' : mm} (d : Nat) (h : m_X11_count F a1 M = some (x, M')) : CM G yX11_count cX11_count 2 (some .int) (d + 2) [vR 12 0, vI a1] M (some (vI x)) M' := by
  refine ct_i (ls := [some (vR 12 0), some (vI a1)]) rfl rfl (Nat.le_of_ble_eq_true rfl) (fun Z => ?_) h
  show SW G (d + 2) YX11_count Z 0 [some (vR 12 0), some (vI a1)] [] M _ _
  unfold m_X11_count
  refine s_step (g_iload_n (iRow iCX11_count_0 0 rfl) rfl rfl) ?_
  refine s_ite (fun hs0 => ?_) (fun hs0 => ?_)
  · refine s_step (g_tableIn (tgt := 68) (off := 67) (iRow iCX11_count_0 1 rfl) (sw_lo hs0 (by decide)) (sw_hi hs0 (by decide)) (sw_at hs0 (by decide)) (by decide)) ?_
    refine s_step (g_aload_n (iRow iCX11_count_0 2 rfl) rfl rfl) ?_
    refine s_step (g_getR (iRow iCX11_count_0 3 rfl) f11_10 ko_12 (r_12_6 _ _)) ?_
    refine s_step (g_getI (iRow iCX11_count_0 4 rfl) f11_137 ko_1) ?_
    exact s_reti (iRow iCX11_count_0 5 rfl) rfl
  · refine s_ite (fun hs1 => ?_) (fun hs1 => ?_)
    · refine s_step (g_tableIn (tgt := 76) (off := 75) (iRow iCX11_count_0 1 rfl) (sw_lo hs1 (by decide)) (sw_hi hs1 (by decide)) (sw_at hs1 (by decide)) (by decide)) ?_
      refine s_step (g_aload_n (iRow iCX11_count_0 6 rfl) rfl rfl) ?_
      refine s_step (g_getR (iRow iCX11_count_0 7 rfl) f11_10 ko_12 (r_12_6 _ _)) ?_
      refine s_step (g_getI (iRow iCX11_count_0 8 rfl) f11_241 ko_1) ?_
      exact s_reti (iRow iCX11_count_0 9 rfl) rfl
    · refine s_ite (fun hs2 => ?_) (fun hs2 => ?_)
      · refine s_step (g_tableIn (tgt := 84) (off := 83) (iRow iCX11_count_0 1 rfl) (sw_lo hs2 (by decide)) (sw_hi hs2 (by decide)) (sw_at hs2 (by decide)) (by decide)) ?_
        refine s_step (g_aload_n (iRow iCX11_count_0 10 rfl) rfl rfl) ?_
        refine s_step (g_getR (iRow iCX11_count_0 11 rfl) f11_10 ko_12 (r_12_6 _ _)) ?_
        refine s_step (g_getI (iRow iCX11_count_0 12 rfl) f11_342 ko_1) ?_
        exact s_reti (iRow iCX11_count_0 13 rfl) rfl
      · refine s_ite (fun hs3 => ?_) (fun hs3 => ?_)
        · refine s_step (g_tableIn (tgt := 92) (off := 91) (iRow iCX11_count_0 1 rfl) (sw_lo hs3 (by decide)) (sw_hi hs3 (by decide)) (sw_at hs3 (by decide)) (by decide)) ?_
          refine s_step (g_aload_n (iRow iCX11_count_0 14 rfl) rfl rfl) ?_
          refine s_step (g_getR (iRow iCX11_count_0 15 rfl) f11_82 ko_12 (r_12_8 _ _)) ?_
          refine s_step (g_getI (iRow iCX11_count_0 16 rfl) f11_345 ko_5) ?_
          exact s_reti (iRow iCX11_count_0 17 rfl) rfl
        · refine s_ite (fun hs4 => ?_) (fun hs4 => ?_)
          · refine s_step (g_tableIn (tgt := 100) (off := 99) (iRow iCX11_count_0 1 rfl) (sw_lo hs4 (by decide)) (sw_hi hs4 (by decide)) (sw_at hs4 (by decide)) (by decide)) ?_
            refine s_step (g_aload_n (iRow iCX11_count_0 18 rfl) rfl rfl) ?_
            refine s_step (g_getR (iRow iCX11_count_0 19 rfl) f11_82 ko_12 (r_12_8 _ _)) ?_
            refine s_step (g_getI (iRow iCX11_count_0 20 rfl) f11_150 ko_5) ?_
            refine s_cl (sf := fun x => vI x :: []) (fun _ _ h => h_S (As := [_]) (iRow iCX11_count_0 21 rfl) l11_274 iJ6_bitCount_0f7a4 rfl rfl (t_J6_bitCount_0f7a4 (d + 1) h) rfl (by omega) (by decide) (Nat.le_of_ble_eq_true rfl)) (fun x2 M1 => ?_)
            exact s_reti (iRow iCX11_count_0 22 rfl) rfl
          · refine s_ite (fun hs5 => ?_) (fun hs5 => ?_)
            · refine s_step (g_tableIn (tgt := 111) (off := 110) (iRow iCX11_count_0 1 rfl) (sw_lo hs5 (by decide)) (sw_hi hs5 (by decide)) (sw_at hs5 (by decide)) (by decide)) ?_
              refine s_step (g_aload_n (iRow iCX11_count_0 23 rfl) rfl rfl) ?_
              refine s_step (g_getR (iRow iCX11_count_1 0 rfl) f11_82 ko_12 (r_12_8 _ _)) ?_
              refine s_step (g_getI (iRow iCX11_count_1 1 rfl) f11_188 ko_5) ?_
              refine s_cl (sf := fun x => vI x :: []) (fun _ _ h => h_S (As := [_]) (iRow iCX11_count_1 2 rfl) l11_274 iJ6_bitCount_0f7a4 rfl rfl (t_J6_bitCount_0f7a4 (d + 1) h) rfl (by omega) (by decide) (Nat.le_of_ble_eq_true rfl)) (fun x4 M3 => ?_)
              exact s_reti (iRow iCX11_count_1 3 rfl) rfl
            · refine s_ite (fun hs6 => ?_) (fun hs6 => ?_)
              · refine s_step (g_tableIn (tgt := 122) (off := 121) (iRow iCX11_count_0 1 rfl) (sw_lo hs6 (by decide)) (sw_hi hs6 (by decide)) (sw_at hs6 (by decide)) (by decide)) ?_
                refine s_step (g_aload_n (iRow iCX11_count_1 4 rfl) rfl rfl) ?_
                refine s_step (g_getR (iRow iCX11_count_1 5 rfl) f11_10 ko_12 (r_12_6 _ _)) ?_
                refine s_step (g_aload_n (iRow iCX11_count_1 6 rfl) rfl rfl) ?_
                refine s_step (g_getR (iRow iCX11_count_1 7 rfl) f11_82 ko_12 (r_12_8 _ _)) ?_
                refine s_step (g_getI (iRow iCX11_count_1 8 rfl) f11_188 ko_5) ?_
                refine s_cl (sf := fun x => vI x :: []) (fun _ _ h => h_V (As := [_]) (iRow iCX11_count_1 9 rfl) l11_348 iX0_weightOf ko_1 rfl rfl rfl rfl (t_X0_weightOf (d + 1) h) rfl (by omega) (by decide) (Nat.le_of_ble_eq_true rfl)) (fun x6 M5 => ?_)
                exact s_reti (iRow iCX11_count_1 10 rfl) rfl
              · refine s_ite (fun hs7 => ?_) (fun hs7 => ?_)
                · refine s_step (g_tableIn (tgt := 137) (off := 136) (iRow iCX11_count_0 1 rfl) (sw_lo hs7 (by decide)) (sw_hi hs7 (by decide)) (sw_at hs7 (by decide)) (by decide)) ?_
                  refine s_step (g_aload_n (iRow iCX11_count_1 11 rfl) rfl rfl) ?_
                  refine s_step (g_getR (iRow iCX11_count_1 12 rfl) f11_22 ko_12 (r_12_10 _ _)) ?_
                  refine s_step (g_getI (iRow iCX11_count_1 13 rfl) f11_351 ko_9) ?_
                  exact s_reti (iRow iCX11_count_1 14 rfl) rfl
                · refine s_ite (fun hs8 => ?_) (fun hs8 => ?_)
                  · refine s_step (g_tableIn (tgt := 145) (off := 144) (iRow iCX11_count_0 1 rfl) (sw_lo hs8 (by decide)) (sw_hi hs8 (by decide)) (sw_at hs8 (by decide)) (by decide)) ?_
                    refine s_step (g_aload_n (iRow iCX11_count_1 15 rfl) rfl rfl) ?_
                    refine s_step (g_getR (iRow iCX11_count_1 16 rfl) f11_22 ko_12 (r_12_10 _ _)) ?_
                    refine s_step (g_getI (iRow iCX11_count_1 17 rfl) f11_289 ko_9) ?_
                    exact s_reti (iRow iCX11_count_1 18 rfl) rfl
                  · refine s_ite (fun hs9 => ?_) (fun hs9 => ?_)
                    · refine s_step (g_tableIn (tgt := 153) (off := 152) (iRow iCX11_count_0 1 rfl) (sw_lo hs9 (by decide)) (sw_hi hs9 (by decide)) (sw_at hs9 (by decide)) (by decide)) ?_
                      refine s_step (g_aload_n (iRow iCX11_count_1 19 rfl) rfl rfl) ?_
                      refine s_step (g_getR (iRow iCX11_count_1 20 rfl) f11_10 ko_12 (r_12_6 _ _)) ?_
                      refine s_cl (sf := fun x => vI x :: []) (fun _ _ h => h_V (As := []) (iRow iCX11_count_1 21 rfl) l11_354 iX0_pairs ko_1 rfl rfl rfl rfl (t_X0_pairs (d + 1) h) rfl (by omega) (by decide) (Nat.le_of_ble_eq_true rfl)) (fun x8 M7 => ?_)
                      exact s_reti (iRow iCX11_count_1 22 rfl) rfl
                    · refine s_ite (fun hs10 => ?_) (fun hs10 => ?_)
                      · refine s_step (g_tableIn (tgt := 161) (off := 160) (iRow iCX11_count_0 1 rfl) (sw_lo hs10 (by decide)) (sw_hi hs10 (by decide)) (sw_at hs10 (by decide)) (by decide)) ?_
                        refine s_step (g_aload_n (iRow iCX11_count_1 23 rfl) rfl rfl) ?_
                        refine s_step (g_getR (iRow iCX11_count_2 0 rfl) f11_10 ko_12 (r_12_6 _ _)) ?_
                        refine s_cl (sf := fun x => vI x :: []) (fun _ _ h => h_V (As := []) (iRow iCX11_count_2 1 rfl) l11_357 iX0_clashes ko_1 rfl rfl rfl rfl (t_X0_clashes (d + 0) h) rfl (by omega) (by decide) (Nat.le_of_ble_eq_true rfl)) (fun x10 M9 => ?_)
                        exact s_reti (iRow iCX11_count_2 2 rfl) rfl
                      · refine s_ite (fun hs11 => ?_) (fun hs11 => ?_)
                        · refine s_step (g_tableIn (tgt := 169) (off := 168) (iRow iCX11_count_0 1 rfl) (sw_lo hs11 (by decide)) (sw_hi hs11 (by decide)) (sw_at hs11 (by decide)) (by decide)) ?_
                          refine s_step (g_aload_n (iRow iCX11_count_2 3 rfl) rfl rfl) ?_
                          refine s_step (g_getI (iRow iCX11_count_2 4 rfl) f11_116 ko_12) ?_
                          exact s_reti (iRow iCX11_count_2 5 rfl) rfl
                        · refine s_ite (fun hs12 => ?_) (fun hs12 => ?_)
                          · refine s_step (g_tableIn (tgt := 174) (off := 173) (iRow iCX11_count_0 1 rfl) (sw_lo hs12 (by decide)) (sw_hi hs12 (by decide)) (sw_at hs12 (by decide)) (by decide)) ?_
                            refine s_step (g_aload_n (iRow iCX11_count_2 6 rfl) rfl rfl) ?_
                            refine s_step (g_getR (iRow iCX11_count_2 7 rfl) f11_32 ko_12 (r_12_0 _ _)) ?_
                            refine s_step (g_getI (iRow iCX11_count_2 8 rfl) f11_104 ko_7) ?_
                            exact s_reti (iRow iCX11_count_2 9 rfl) rfl
                          · refine s_step (g_tableOut (tgt := 182) (iRow iCX11_count_0 1 rfl) (sw_out [0, 1, 2, 3, 4, 5, 6, 7, 8, 9, 10, 11, 12] (by decide +kernel) ⟨hs0, hs1, hs2, hs3, hs4, hs5, hs6, hs7, hs8, hs9, hs10, hs11, hs12, trivial⟩) (by decide)) ?_
                            refine s_step (g_iconst (iRow iCX11_count_2 10 rfl) kc_m1) ?_
                            exact s_reti (iRow iCX11_count_2 11 rfl) rfl
abbrev YX12_thrown : mY := (RX12, "thrown", cX12_thrown, 1, (some .int), none)
set_option maxHeartbeats 400000 in
set_option maxRecDepth 20000 in
theorem t_X12_thrown {G : mg} {F : Nat} {M : mm} {x : Int32} {M' : mm} (d : Nat) (h : m_X12_thrown F M = some (x, M')) : CM G yX12_thrown cX12_thrown 1 (some .int) (d + 0) [vR 13 0] M (some (vI x)) M' := by
  refine ct_i (ls := [some (vR 13 0)]) rfl rfl (Nat.le_of_ble_eq_true rfl) (fun Z => ?_) h
  show SW G (d + 0) YX12_thrown Z 0 [some (vR 13 0)] [] M _ _
  unfold m_X12_thrown
  refine s_step (g_aload_n (iRow iCX12_thrown_0 0 rfl) rfl rfl) ?_
  refine s_step (g_getI (iRow iCX12_thrown_0 1 rfl) f12_157 ko_13) ?_
  exact s_reti (iRow iCX12_thrown_0 2 rfl) rfl
abbrev YX12_within : mY := (RX12, "within", cX12_within, 3, (some .boolean), none)
set_option maxHeartbeats 400000 in
set_option maxRecDepth 20000 in
theorem t_X12_within {G : mg} {F : Nat} {a1 : Int32} {a2 : Int32} {a3 : Int32} {M : mm} {x : Bool} {M' : mm} (d : Nat) (h : m_X12_within F a1 a2 a3 M = some (x, M')) : CM G yX12_within cX12_within 3 (some .boolean) (d + 0) [vI a1, vI a2, vI a3] M (some (vI (bI x))) M' := by
  refine ct_z (ls := [some (vI a1), some (vI a2), some (vI a3)]) rfl rfl (Nat.le_of_ble_eq_true rfl) (fun Z => ?_) h
  show SW G (d + 0) YX12_within Z 0 [some (vI a1), some (vI a2), some (vI a3)] [] M _ _
  unfold m_X12_within
  refine s_step (g_iload_n (iRow iCX12_within_0 0 rfl) rfl rfl) ?_
  refine s_step (g_iload_n (iRow iCX12_within_0 1 rfl) rfl rfl) ?_
  refine s_if (g_icmp_lt (tgt := 14) (iRow iCX12_within_0 2 rfl) (by decide)) (fun _ => ?_) (fun _ => ?_)
  · refine s_step (g_iconst (iRow iCX12_within_0 8 rfl) kc_0) ?_
    exact s_retz (b := false) (iRow iCX12_within_0 9 rfl) rfl rfl
  · refine s_step (g_iload_n (iRow iCX12_within_0 3 rfl) rfl rfl) ?_
    refine s_step (g_iload_n (iRow iCX12_within_0 4 rfl) rfl rfl) ?_
    refine s_if (g_icmp_gt (tgt := 14) (iRow iCX12_within_0 5 rfl) (by decide)) (fun _ => ?_) (fun _ => ?_)
    · refine s_step (g_iconst (iRow iCX12_within_0 8 rfl) kc_0) ?_
      exact s_retz (b := false) (iRow iCX12_within_0 9 rfl) rfl rfl
    · refine s_step (g_iconst (iRow iCX12_within_0 6 rfl) kc_1) ?_
      refine s_step (g_goto (tgt := 15) (iRow iCX12_within_0 7 rfl) (by decide)) ?_
      exact s_retz (b := true) (iRow iCX12_within_0 9 rfl) rfl rfl
abbrev YX12_between : mY := (RX12, "between", cX12_between, 3, (some .int), none)
set_option maxHeartbeats 400000 in
set_option maxRecDepth 20000 in
theorem t_X12_between {G : mg} {F : Nat} {a1 : Int32} {a2 : Int32} {a3 : Int32} {M : mm} {x : Int32} {M' : mm} (d : Nat) (h : m_X12_between F a1 a2 a3 M = some (x, M')) : CM G yX12_between cX12_between 3 (some .int) (d + 0) [vI a1, vI a2, vI a3] M (some (vI x)) M' := by
  refine ct_i (ls := [some (vI a1), some (vI a2), some (vI a3)]) rfl rfl (Nat.le_of_ble_eq_true rfl) (fun Z => ?_) h
  show SW G (d + 0) YX12_between Z 0 [some (vI a1), some (vI a2), some (vI a3)] [] M _ _
  unfold m_X12_between
  refine s_step (g_iload_n (iRow iCX12_between_0 0 rfl) rfl rfl) ?_
  refine s_step (g_iload_n (iRow iCX12_between_0 1 rfl) rfl rfl) ?_
  refine s_if (g_icmp_ge (tgt := 9) (iRow iCX12_between_0 2 rfl) (by decide)) (fun _ => ?_) (fun _ => ?_)
  · refine s_step (g_iload_n (iRow iCX12_between_0 5 rfl) rfl rfl) ?_
    refine s_step (g_iload_n (iRow iCX12_between_0 6 rfl) rfl rfl) ?_
    refine s_if (g_icmp_le (tgt := 18) (iRow iCX12_between_0 7 rfl) (by decide)) (fun _ => ?_) (fun _ => ?_)
    · refine s_step (g_iload_n (iRow iCX12_between_0 10 rfl) rfl rfl) ?_
      exact s_reti (iRow iCX12_between_0 11 rfl) rfl
    · refine s_step (g_iload_n (iRow iCX12_between_0 8 rfl) rfl rfl) ?_
      refine s_step (g_goto (tgt := 19) (iRow iCX12_between_0 9 rfl) (by decide)) ?_
      exact s_reti (iRow iCX12_between_0 11 rfl) rfl
  · refine s_step (g_iload_n (iRow iCX12_between_0 3 rfl) rfl rfl) ?_
    refine s_step (g_goto (tgt := 19) (iRow iCX12_between_0 4 rfl) (by decide)) ?_
    exact s_reti (iRow iCX12_between_0 11 rfl) rfl
abbrev YX12_bits : mY := (RX12, "bits", cX12_bits, 3, (some .int), none)
set_option maxHeartbeats 400000 in
set_option maxRecDepth 20000 in
theorem t_X12_bits {G : mg} {F : Nat} {a1 : Int32} {M : mm} {x : Int32} {M' : mm} (d : Nat) (h : m_X12_bits F a1 M = some (x, M')) : CM G yX12_bits cX12_bits 3 (some .int) (d + 0) [vI a1] M (some (vI x)) M' := by
  refine ct_i (ls := [some (vI a1), none, none]) rfl rfl (Nat.le_of_ble_eq_true rfl) (fun Z => ?_) h
  show SW G (d + 0) YX12_bits Z 0 [some (vI a1), none, none] [] M _ _
  unfold m_X12_bits
  refine s_step (g_iconst (iRow iCX12_bits_0 0 rfl) kc_0) ?_
  refine s_step (g_istore_n (ls' := [some (vI a1), some (vI (0 : Int32)), none]) (iRow iCX12_bits_0 1 rfl) rfl (by decide) rfl) ?_
  refine s_step (g_iconst (iRow iCX12_bits_0 2 rfl) kc_0) ?_
  refine s_step (g_istore_n (ls' := [some (vI a1), some (vI (0 : Int32)), some (vI (0 : Int32))]) (iRow iCX12_bits_0 3 rfl) rfl (by decide) rfl) ?_
  refine s_lp (fun z => [some (vI a1), some (vI (z.1)), some (vI (z.2))]) (fun _ => M) (fun z => LM G (d + 0) YX12_bits Z 24 [none, some (vI z), none] [] M) rfl rfl ?_ ?_
  · rintro ⟨x1, x2⟩
    show SW G (d + 0) YX12_bits Z 4 [some (vI a1), some (vI x1), some (vI x2)] [] M (b_X12_bits_1c F a1 x1 x2) _
    unfold b_X12_bits_1c
    refine s_step (g_iload_n (iRow iCX12_bits_0 4 rfl) rfl rfl) ?_
    refine s_step (g_bipush (iRow iCX12_bits_0 5 rfl) kb_11) ?_
    refine s_if (g_icmp_ge (tgt := 24) (iRow iCX12_bits_0 6 rfl) (by decide)) (fun _ => ?_) (fun _ => ?_)
    · refine s_step (g_keep [false, true, false] rfl) ?_
      exact s_end (fun h => h)
    · refine s_step (g_iload_n (iRow iCX12_bits_0 7 rfl) rfl rfl) ?_
      refine s_step (g_iload_n (iRow iCX12_bits_0 8 rfl) rfl rfl) ?_
      refine s_step (g_iload_n (iRow iCX12_bits_0 9 rfl) rfl rfl) ?_
      refine s_step (g_ishr (iRow iCX12_bits_0 10 rfl)) ?_
      refine s_step (g_iconst (iRow iCX12_bits_0 11 rfl) kc_1) ?_
      refine s_step (g_iand (iRow iCX12_bits_0 12 rfl)) ?_
      refine s_step (g_iadd (iRow iCX12_bits_0 13 rfl)) ?_
      refine s_nmI (fun x3 => ?_)
      refine s_step (g_istore_n (ls' := [some (vI a1), some (vI x3), some (vI x2)]) (iRow iCX12_bits_0 14 rfl) rfl (by decide) rfl) ?_
      refine s_step (g_iincc (c := 1) (ls' := [some (vI a1), some (vI x3), some (vI (x2 + (1 : Int32)))]) (iRow iCX12_bits_0 15 rfl) rfl kc_1 (by decide) rfl) ?_
      refine s_step (g_goto (tgt := 4) (iRow iCX12_bits_0 16 rfl) (by decide)) ?_
      exact s_end (fun h => h)
  · rintro x4
    show SW G (d + 0) YX12_bits Z 24 [none, some (vI x4), none] [] M _ _
    try dsimp only
    refine s_step (g_iload_n (iRow iCX12_bits_0 17 rfl) rfl rfl) ?_
    exact s_reti (iRow iCX12_bits_0 18 rfl) rfl
abbrev YX12_feed : mY := (RX12, "feed", cX12_feed, 11, (some .int), none)
set_option maxHeartbeats 400000 in
set_option maxRecDepth 20000 in
theorem t_X12_feed {G : mg} {F : Nat} {a1 : Int64} {a2 : Int64} {a3 : Int64} {M : mm} {x : Int32} {M' : mm} (d : Nat) (h : m_X12_feed F a1 a2 a3 M = some (x, M')) : CM G yX12_feed cX12_feed 11 (some .int) (d + 0) [vR 13 0, vL (a1), vL (a2), vL (a3)] M (some (vI x)) M' := by
  refine ct_i (ls := [some (vR 13 0), some (vL (a1)), none, some (vL (a2)), none, some (vL (a3)), none, none, none, none, none]) rfl rfl (Nat.le_of_ble_eq_true rfl) (fun Z => ?_) h
  show SW G (d + 0) YX12_feed Z 0 [some (vR 13 0), some (vL (a1)), none, some (vL (a2)), none, some (vL (a3)), none, none, none, none, none] [] M _ _
  unfold m_X12_feed
  refine s_step (g_aload_n (iRow iCX12_feed_0 0 rfl) rfl rfl) ?_
  refine s_step (g_iconst (iRow iCX12_feed_0 1 rfl) kc_0) ?_
  refine s_step (g_putI (iRow iCX12_feed_0 2 rfl) f12_157 (Or.inl rfl) ko_13) ?_
  refine s_nmM (fun M1 => ?_)
  refine s_step (g_iconst (iRow iCX12_feed_0 3 rfl) kc_0) ?_
  refine s_step (g_istore (ls' := [some (vR 13 0), some (vL (a1)), none, some (vL (a2)), none, some (vL (a3)), none, some (vI (0 : Int32)), none, none, none]) (iRow iCX12_feed_0 4 rfl) (by decide) rfl) ?_
  refine s_lp (fun z => [some (vR 13 0), some (vL (a1)), none, some (vL (a2)), none, some (vL (a3)), none, some (vI (z.1)), none, none, none]) (fun z => z.2) (fun z => LM G (d + 0) YX12_feed Z 120 [some (vR 13 0), none, none, none, none, none, none, none, none, none, none] [] z) rfl rfl ?_ ?_
  · rintro ⟨x2, M3⟩
    show SW G (d + 0) YX12_feed Z 8 [some (vR 13 0), some (vL (a1)), none, some (vL (a2)), none, some (vL (a3)), none, some (vI x2), none, none, none] [] M3 (b_X12_feed_1c F a1 a2 a3 x2 M3) _
    unfold b_X12_feed_1c
    refine s_step (g_iload (iRow iCX12_feed_0 5 rfl) rfl) ?_
    refine s_step (g_bipush (iRow iCX12_feed_0 6 rfl) kb_24) ?_
    refine s_if (g_icmp_ge (tgt := 120) (iRow iCX12_feed_0 7 rfl) (by decide)) (fun _ => ?_) (fun _ => ?_)
    · refine s_step (g_keep [true, false, false, false, false, false, false, false, false, false, false] rfl) ?_
      exact s_end (fun h => h)
    · refine s_step (g_iload (iRow iCX12_feed_0 8 rfl) rfl) ?_
      refine s_step (g_bipush (iRow iCX12_feed_0 9 rfl) kb_8) ?_
      refine s_bd (fun z => LM G (d + 0) YX12_feed Z 39 [some (vR 13 0), some (vL (a1)), none, some (vL (a2)), none, some (vL (a3)), none, some (vI x2), none, none, none] [vL (z)] M3) ?_ ?_
      · refine s_if (g_icmp_ge (tgt := 26) (iRow iCX12_feed_0 10 rfl) (by decide)) (fun _ => ?_) (fun _ => ?_)
        · refine s_step (g_iload (iRow iCX12_feed_0 13 rfl) rfl) ?_
          refine s_step (g_bipush (iRow iCX12_feed_0 14 rfl) kb_16) ?_
          refine s_if (g_icmp_ge (tgt := 37) (iRow iCX12_feed_0 15 rfl) (by decide)) (fun _ => ?_) (fun _ => ?_)
          · refine s_step (g_lload (iRow iCX12_feed_0 18 rfl) rfl) ?_
            exact s_end (fun h => h)
          · refine s_step (g_lload_n (iRow iCX12_feed_0 16 rfl) rfl rfl) ?_
            refine s_step (g_goto (tgt := 39) (iRow iCX12_feed_0 17 rfl) (by decide)) ?_
            exact s_end (fun h => h)
        · refine s_step (g_lload_n (iRow iCX12_feed_0 11 rfl) rfl rfl) ?_
          refine s_step (g_goto (tgt := 39) (iRow iCX12_feed_0 12 rfl) (by decide)) ?_
          exact s_end (fun h => h)
      · rintro x4
        show SW G (d + 0) YX12_feed Z 39 [some (vR 13 0), some (vL (a1)), none, some (vL (a2)), none, some (vL (a3)), none, some (vI x2), none, none, none] [vL (x4)] M3 _ _
        try dsimp only
        refine s_step (g_lstore (ls' := [some (vR 13 0), some (vL (a1)), none, some (vL (a2)), none, some (vL (a3)), none, some (vI x2), some (vL (x4)), none, none]) (iRow iCX12_feed_0 19 rfl) (by decide) rfl) ?_
        refine s_step (g_lload (iRow iCX12_feed_0 20 rfl) rfl) ?_
        refine s_step (g_bipush (iRow iCX12_feed_0 21 rfl) kb_56) ?_
        refine s_step (g_bipush (iRow iCX12_feed_0 22 rfl) kb_8) ?_
        refine s_step (g_iload (iRow iCX12_feed_0 23 rfl) rfl) ?_
        refine s_step (g_bipush (iRow iCX12_feed_1 0 rfl) kb_7) ?_
        refine s_step (g_iand (iRow iCX12_feed_1 1 rfl)) ?_
        refine s_step (g_imul (iRow iCX12_feed_1 2 rfl)) ?_
        refine s_step (g_isub (iRow iCX12_feed_1 3 rfl)) ?_
        refine s_step (g_lushr (iRow iCX12_feed_1 4 rfl) rfl) ?_
        refine s_step (g_ldc2 (iRow iCX12_feed_1 5 rfl) k12_161) ?_
        refine s_step (g_land (iRow iCX12_feed_1 6 rfl)) ?_
        refine s_step (g_l2i (iRow iCX12_feed_1 7 rfl)) ?_
        refine s_nmI (fun x5 => ?_)
        refine s_step (g_istore (ls' := [some (vR 13 0), some (vL (a1)), none, some (vL (a2)), none, some (vL (a3)), none, some (vI x2), some (vL (x4)), none, some (vI x5)]) (iRow iCX12_feed_1 8 rfl) (by decide) rfl) ?_
        refine s_step (g_aload_n (iRow iCX12_feed_1 9 rfl) rfl rfl) ?_
        refine s_step (g_getI (iRow iCX12_feed_1 10 rfl) f12_163 ko_13) ?_
        refine s_step (g_sipush (iRow iCX12_feed_1 11 rfl) ks_1000) ?_
        refine s_bd (fun z => LM G (d + 0) YX12_feed Z 114 [some (vR 13 0), some (vL (a1)), none, some (vL (a2)), none, some (vL (a3)), none, some (vI x2), none, none, none] [] z) ?_ ?_
        · refine s_if (g_icmp_ge (tgt := 114) (iRow iCX12_feed_1 12 rfl) (by decide)) (fun _ => ?_) (fun _ => ?_)
          · refine s_step (g_keep [true, true, false, true, false, true, false, true, false, false, false] rfl) ?_
            exact s_end (fun h => h)
          · refine s_step (g_iload (iRow iCX12_feed_1 13 rfl) rfl) ?_
            refine s_step (g_bipush (iRow iCX12_feed_1 14 rfl) kb_10) ?_
            refine s_nj 93 (fun z => [some (vR 13 0), some (vL (a1)), none, some (vL (a2)), none, some (vL (a3)), none, some (vI x2), none, none, some (vI x5)]) (fun z => []) (fun z => M3) ?_ (fun j93 hj93 => ?_)
            · intro _
              show SW G (d + 0) YX12_feed Z 93 [some (vR 13 0), some (vL (a1)), none, some (vL (a2)), none, some (vL (a3)), none, some (vI x2), none, none, some (vI x5)] [] M3 _ _
              try dsimp only
              refine s_step (g_aload_n (iRow iCX12_feed_1 22 rfl) rfl rfl) ?_
              refine s_step (g_getR (iRow iCX12_feed_1 23 rfl) f12_7 ko_13 (r_13_2 _ _)) ?_
              refine s_step (g_aload_n (iRow iCX12_feed_2 0 rfl) rfl rfl) ?_
              refine s_step (g_getI (iRow iCX12_feed_2 1 rfl) f12_163 ko_13) ?_
              refine s_step (g_iload (iRow iCX12_feed_2 2 rfl) rfl) ?_
              refine s_gi (fun h => g_iast (iRow iCX12_feed_2 3 rfl) kn_63 ka_63 h) ?_
              refine s_nmM (fun M6 => ?_)
              refine s_step (g_aload_n (iRow iCX12_feed_2 4 rfl) rfl rfl) ?_
              refine s_step (g_dup (iRow iCX12_feed_2 5 rfl) rfl) ?_
              refine s_step (g_getI (iRow iCX12_feed_2 6 rfl) f12_163 ko_13) ?_
              refine s_step (g_iconst (iRow iCX12_feed_2 7 rfl) kc_1) ?_
              refine s_step (g_iadd (iRow iCX12_feed_2 8 rfl)) ?_
              refine s_step (g_putI (iRow iCX12_feed_2 9 rfl) f12_163 (Or.inl rfl) ko_13) ?_
              refine s_nmM (fun M7 => ?_)
              refine s_step (g_keep [true, true, false, true, false, true, false, true, false, false, false] rfl) ?_
              exact s_end (fun h => h)
            · refine s_if (g_icmp_eq (tgt := 93) (iRow iCX12_feed_1 15 rfl) (by decide)) (fun _ => ?_) (fun _ => ?_)
              · refine s_step (g_keep [true, true, false, true, false, true, false, true, false, false, true] rfl) ?_
                exact hj93 _
              · refine s_step (g_iload (iRow iCX12_feed_1 16 rfl) rfl) ?_
                refine s_step (g_bipush (iRow iCX12_feed_1 17 rfl) kb_32) ?_
                refine s_if (g_icmp_lt (tgt := 114) (iRow iCX12_feed_1 18 rfl) (by decide)) (fun _ => ?_) (fun _ => ?_)
                · refine s_step (g_keep [true, true, false, true, false, true, false, true, false, false, false] rfl) ?_
                  exact s_end (fun h => h)
                · refine s_step (g_iload (iRow iCX12_feed_1 19 rfl) rfl) ?_
                  refine s_step (g_bipush (iRow iCX12_feed_1 20 rfl) kb_126) ?_
                  refine s_if (g_icmp_gt (tgt := 114) (iRow iCX12_feed_1 21 rfl) (by decide)) (fun _ => ?_) (fun _ => ?_)
                  · refine s_step (g_keep [true, true, false, true, false, true, false, true, false, false, false] rfl) ?_
                    exact s_end (fun h => h)
                  · refine s_step (g_keep [true, true, false, true, false, true, false, true, false, false, true] rfl) ?_
                    exact hj93 _
        · rintro M8
          show SW G (d + 0) YX12_feed Z 114 [some (vR 13 0), some (vL (a1)), none, some (vL (a2)), none, some (vL (a3)), none, some (vI x2), none, none, none] [] M8 _ _
          try dsimp only
          refine s_step (g_iincc (c := 1) (ls' := [some (vR 13 0), some (vL (a1)), none, some (vL (a2)), none, some (vL (a3)), none, some (vI (x2 + (1 : Int32))), none, none, none]) (iRow iCX12_feed_2 10 rfl) rfl kc_1 (by decide) rfl) ?_
          refine s_step (g_goto (tgt := 8) (iRow iCX12_feed_2 11 rfl) (by decide)) ?_
          exact s_end (fun h => h)
  · rintro M9
    show SW G (d + 0) YX12_feed Z 120 [some (vR 13 0), none, none, none, none, none, none, none, none, none, none] [] M9 _ _
    try dsimp only
    refine s_step (g_aload_n (iRow iCX12_feed_2 12 rfl) rfl rfl) ?_
    refine s_step (g_getI (iRow iCX12_feed_2 13 rfl) f12_163 ko_13) ?_
    exact s_reti (iRow iCX12_feed_2 14 rfl) rfl
abbrev YX12_signAt : mY := (RX12, "signAt", cX12_signAt, 2, (some .int), none)
set_option maxHeartbeats 400000 in
set_option maxRecDepth 20000 in
theorem t_X12_signAt {G : mg} {F : Nat} {a1 : Int32} {M : mm} {x : Int32} {M' : mm} (d : Nat) (h : m_X12_signAt F a1 M = some (x, M')) : CM G yX12_signAt cX12_signAt 2 (some .int) (d + 0) [vR 13 0, vI a1] M (some (vI x)) M' := by
  refine ct_i (ls := [some (vR 13 0), some (vI a1)]) rfl rfl (Nat.le_of_ble_eq_true rfl) (fun Z => ?_) h
  show SW G (d + 0) YX12_signAt Z 0 [some (vR 13 0), some (vI a1)] [] M _ _
  unfold m_X12_signAt
  refine s_step (g_iload_n (iRow iCX12_signAt_0 0 rfl) rfl rfl) ?_
  refine s_step (g_aload_n (iRow iCX12_signAt_0 1 rfl) rfl rfl) ?_
  refine s_step (g_getI (iRow iCX12_signAt_0 2 rfl) f12_166 ko_13) ?_
  refine s_if (g_icmp_ge (tgt := 17) (iRow iCX12_signAt_0 3 rfl) (by decide)) (fun _ => ?_) (fun _ => ?_)
  · refine s_step (g_iconst (iRow iCX12_signAt_0 9 rfl) kc_0) ?_
    exact s_reti (iRow iCX12_signAt_0 10 rfl) rfl
  · refine s_step (g_aload_n (iRow iCX12_signAt_0 4 rfl) rfl rfl) ?_
    refine s_step (g_getR (iRow iCX12_signAt_0 5 rfl) f12_7 ko_13 (r_13_2 _ _)) ?_
    refine s_step (g_iload_n (iRow iCX12_signAt_0 6 rfl) rfl rfl) ?_
    refine s_gi (fun h => g_iald (iRow iCX12_signAt_0 7 rfl) kn_63 ka_63 h) ?_
    refine s_step (g_goto (tgt := 18) (iRow iCX12_signAt_0 8 rfl) (by decide)) ?_
    exact s_reti (iRow iCX12_signAt_0 10 rfl) rfl
abbrev YX12_nextToken : mY := (RX12, "nextToken", cX12_nextToken, 2, none, none)
set_option maxHeartbeats 400000 in
set_option maxRecDepth 20000 in
theorem t_X12_nextToken {G : mg} {F : Nat} {M : mm} {M' : mm} (d : Nat) (h : m_X12_nextToken F M = some M') : CM G yX12_nextToken cX12_nextToken 2 none (d + 1) [vR 13 0] M none M' := by
  refine ct_v (ls := [some (vR 13 0), none]) rfl rfl (Nat.le_of_ble_eq_true rfl) (fun Z => ?_) h
  show SW G (d + 1) YX12_nextToken Z 0 [some (vR 13 0), none] [] M _ _
  unfold m_X12_nextToken
  refine s_lp (fun z => [some (vR 13 0), none]) (fun z => z) (fun z => LM G (d + 1) YX12_nextToken Z 52 [some (vR 13 0), none] [] z) rfl rfl ?_ ?_
  · rintro M1
    show SW G (d + 1) YX12_nextToken Z 0 [some (vR 13 0), none] [] M1 (b_X12_nextToken_1c F M1) _
    unfold b_X12_nextToken_1c
    refine s_step (g_aload_n (iRow iCX12_nextToken_0 0 rfl) rfl rfl) ?_
    refine s_step (g_getI (iRow iCX12_nextToken_0 1 rfl) f12_169 ko_13) ?_
    refine s_step (g_aload_n (iRow iCX12_nextToken_0 2 rfl) rfl rfl) ?_
    refine s_step (g_getI (iRow iCX12_nextToken_0 3 rfl) f12_166 ko_13) ?_
    refine s_if (g_icmp_ge (tgt := 52) (iRow iCX12_nextToken_0 4 rfl) (by decide)) (fun _ => ?_) (fun _ => ?_)
    · exact s_end (fun h => h)
    · refine s_step (g_aload_n (iRow iCX12_nextToken_0 5 rfl) rfl rfl) ?_
      refine s_step (g_getR (iRow iCX12_nextToken_0 6 rfl) f12_7 ko_13 (r_13_2 _ _)) ?_
      refine s_step (g_aload_n (iRow iCX12_nextToken_0 7 rfl) rfl rfl) ?_
      refine s_step (g_getI (iRow iCX12_nextToken_0 8 rfl) f12_169 ko_13) ?_
      refine s_gi (fun h => g_iald (iRow iCX12_nextToken_0 9 rfl) kn_63 ka_63 h) ?_
      refine s_step (g_bipush (iRow iCX12_nextToken_0 10 rfl) kb_32) ?_
      refine s_nj 39 (fun z => [some (vR 13 0), none]) (fun z => []) (fun z => M1) ?_ (fun j39 hj39 => ?_)
      · intro _
        show SW G (d + 1) YX12_nextToken Z 39 [some (vR 13 0), none] [] M1 _ _
        try dsimp only
        refine s_step (g_aload_n (iRow iCX12_nextToken_0 19 rfl) rfl rfl) ?_
        refine s_step (g_dup (iRow iCX12_nextToken_0 20 rfl) rfl) ?_
        refine s_step (g_getI (iRow iCX12_nextToken_0 21 rfl) f12_169 ko_13) ?_
        refine s_step (g_iconst (iRow iCX12_nextToken_0 22 rfl) kc_1) ?_
        refine s_step (g_iadd (iRow iCX12_nextToken_0 23 rfl)) ?_
        refine s_step (g_putI (iRow iCX12_nextToken_1 0 rfl) f12_169 (Or.inl rfl) ko_13) ?_
        refine s_nmM (fun M2 => ?_)
        refine s_step (g_goto (tgt := 0) (iRow iCX12_nextToken_1 1 rfl) (by decide)) ?_
        exact s_end (fun h => h)
      · refine s_if (g_icmp_eq (tgt := 39) (iRow iCX12_nextToken_0 11 rfl) (by decide)) (fun _ => ?_) (fun _ => ?_)
        · exact hj39 _
        · refine s_step (g_aload_n (iRow iCX12_nextToken_0 12 rfl) rfl rfl) ?_
          refine s_step (g_getR (iRow iCX12_nextToken_0 13 rfl) f12_7 ko_13 (r_13_2 _ _)) ?_
          refine s_step (g_aload_n (iRow iCX12_nextToken_0 14 rfl) rfl rfl) ?_
          refine s_step (g_getI (iRow iCX12_nextToken_0 15 rfl) f12_169 ko_13) ?_
          refine s_gi (fun h => g_iald (iRow iCX12_nextToken_0 16 rfl) kn_63 ka_63 h) ?_
          refine s_step (g_bipush (iRow iCX12_nextToken_0 17 rfl) kb_10) ?_
          refine s_ifn (g_icmp_ne (tgt := 52) (iRow iCX12_nextToken_0 18 rfl) (by decide)) (fun _ => ?_) (fun _ => ?_)
          · exact hj39 _
          · exact s_end (fun h => h)
  · rintro M3
    show SW G (d + 1) YX12_nextToken Z 52 [some (vR 13 0), none] [] M3 _ _
    try dsimp only
    refine s_step (g_aload_n (iRow iCX12_nextToken_1 2 rfl) rfl rfl) ?_
    refine s_step (g_aload_n (iRow iCX12_nextToken_1 3 rfl) rfl rfl) ?_
    refine s_step (g_getI (iRow iCX12_nextToken_1 4 rfl) f12_169 ko_13) ?_
    refine s_step (g_putI (iRow iCX12_nextToken_1 5 rfl) f12_172 (Or.inl rfl) ko_13) ?_
    refine s_nmM (fun M4 => ?_)
    refine s_step (g_aload_n (iRow iCX12_nextToken_1 6 rfl) rfl rfl) ?_
    refine s_step (g_lconst (v := 0) (iRow iCX12_nextToken_1 7 rfl) rfl) ?_
    refine s_step (g_putL (iRow iCX12_nextToken_1 8 rfl) f12_175 (Or.inl rfl) ko_13) ?_
    refine s_nmM (fun M5 => ?_)
    refine s_step (g_aload_n (iRow iCX12_nextToken_1 9 rfl) rfl rfl) ?_
    refine s_step (g_iconst (iRow iCX12_nextToken_1 10 rfl) kc_0) ?_
    refine s_step (g_putI (iRow iCX12_nextToken_1 11 rfl) f12_179 (Or.inl rfl) ko_13) ?_
    refine s_nmM (fun M6 => ?_)
    refine s_step (g_aload_n (iRow iCX12_nextToken_1 12 rfl) rfl rfl) ?_
    refine s_step (g_getI (iRow iCX12_nextToken_1 13 rfl) f12_169 ko_13) ?_
    refine s_step (g_aload_n (iRow iCX12_nextToken_1 14 rfl) rfl rfl) ?_
    refine s_step (g_getI (iRow iCX12_nextToken_1 15 rfl) f12_166 ko_13) ?_
    refine s_ifn (g_icmp_ne (tgt := 87) (iRow iCX12_nextToken_1 16 rfl) (by decide)) (fun _ => ?_) (fun _ => ?_)
    · refine s_step (g_aload_n (iRow iCX12_nextToken_1 17 rfl) rfl rfl) ?_
      refine s_step (g_iconst (iRow iCX12_nextToken_1 18 rfl) kc_0) ?_
      refine s_step (g_putI (iRow iCX12_nextToken_1 19 rfl) f12_182 (Or.inl rfl) ko_13) ?_
      refine s_nmM (fun M37 => ?_)
      exact s_retv (iRow iCX12_nextToken_1 20 rfl) rfl
    · refine s_step (g_aload_n (iRow iCX12_nextToken_1 21 rfl) rfl rfl) ?_
      refine s_step (g_getR (iRow iCX12_nextToken_1 22 rfl) f12_7 ko_13 (r_13_2 _ _)) ?_
      refine s_step (g_aload_n (iRow iCX12_nextToken_1 23 rfl) rfl rfl) ?_
      refine s_step (g_getI (iRow iCX12_nextToken_2 0 rfl) f12_169 ko_13) ?_
      refine s_gi (fun h => g_iald (iRow iCX12_nextToken_2 1 rfl) kn_63 ka_63 h) ?_
      refine s_nmI (fun x7 => ?_)
      refine s_step (g_istore_n (ls' := [some (vR 13 0), some (vI x7)]) (iRow iCX12_nextToken_2 2 rfl) rfl (by decide) rfl) ?_
      refine s_step (g_iload_n (iRow iCX12_nextToken_2 3 rfl) rfl rfl) ?_
      refine s_step (g_bipush (iRow iCX12_nextToken_2 4 rfl) kb_97) ?_
      refine s_nj 212 (fun z => [some (vR 13 0), some (vI x7)]) (fun z => []) (fun z => M6) ?_ (fun j212 hj212 => ?_)
      · intro _
        show SW G (d + 1) YX12_nextToken Z 212 [some (vR 13 0), some (vI x7)] [] M6 _ _
        try dsimp only
        refine s_step (g_iload_n (iRow iCX12_nextToken_4 14 rfl) rfl rfl) ?_
        refine s_step (g_bipush (iRow iCX12_nextToken_4 15 rfl) kb_48) ?_
        refine s_nj 322 (fun z => [some (vR 13 0), some (vI x7)]) (fun z => []) (fun z => M6) ?_ (fun j322 hj322 => ?_)
        · intro _
          show SW G (d + 1) YX12_nextToken Z 322 [some (vR 13 0), some (vI x7)] [] M6 _ _
          try dsimp only
          refine s_step (g_aload_n (iRow iCX12_nextToken_7 0 rfl) rfl rfl) ?_
          refine s_step (g_dup (iRow iCX12_nextToken_7 1 rfl) rfl) ?_
          refine s_step (g_getI (iRow iCX12_nextToken_7 2 rfl) f12_169 ko_13) ?_
          refine s_step (g_iconst (iRow iCX12_nextToken_7 3 rfl) kc_1) ?_
          refine s_step (g_iadd (iRow iCX12_nextToken_7 4 rfl)) ?_
          refine s_step (g_putI (iRow iCX12_nextToken_7 5 rfl) f12_169 (Or.inl rfl) ko_13) ?_
          refine s_nmM (fun M34 => ?_)
          refine s_step (g_aload_n (iRow iCX12_nextToken_7 6 rfl) rfl rfl) ?_
          refine s_step (g_iload_n (iRow iCX12_nextToken_7 7 rfl) rfl rfl) ?_
          refine s_step (g_bipush (iRow iCX12_nextToken_7 8 rfl) kb_40) ?_
          refine s_bd (fun z => LM G (d + 1) YX12_nextToken Z 368 [none, none] [vI z, vR 13 0] M34) ?_ ?_
          · refine s_nj 363 (fun z => [none, none]) (fun z => [vR 13 0]) (fun z => M34) ?_ (fun j363 hj363 => ?_)
            · intro _
              show SW G (d + 1) YX12_nextToken Z 363 [none, none] [vR 13 0] M34 _ _
              try dsimp only
              refine s_step (g_iconst (iRow iCX12_nextToken_7 22 rfl) kc_3) ?_
              refine s_step (g_goto (tgt := 368) (iRow iCX12_nextToken_7 23 rfl) (by decide)) ?_
              exact s_end (fun h => h)
            · refine s_nj 345 (fun z => [none, some (vI x7)]) (fun z => [vR 13 0]) (fun z => M34) ?_ (fun j345 hj345 => ?_)
              · intro _
                show SW G (d + 1) YX12_nextToken Z 345 [none, some (vI x7)] [vR 13 0] M34 _ _
                try dsimp only
                refine s_step (g_iload_n (iRow iCX12_nextToken_7 13 rfl) rfl rfl) ?_
                refine s_step (g_bipush (iRow iCX12_nextToken_7 14 rfl) kb_45) ?_
                refine s_if (g_icmp_eq (tgt := 363) (iRow iCX12_nextToken_7 15 rfl) (by decide)) (fun _ => ?_) (fun _ => ?_)
                · refine s_step (g_keep [false, false] rfl) ?_
                  exact hj363 _
                · refine s_step (g_iload_n (iRow iCX12_nextToken_7 16 rfl) rfl rfl) ?_
                  refine s_step (g_bipush (iRow iCX12_nextToken_7 17 rfl) kb_59) ?_
                  refine s_nj 367 (fun z => [none, none]) (fun z => [vR 13 0]) (fun z => M34) ?_ (fun j367 hj367 => ?_)
                  · intro _
                    show SW G (d + 1) YX12_nextToken Z 367 [none, none] [vR 13 0] M34 _ _
                    try dsimp only
                    refine s_step (g_iconst (iRow iCX12_nextToken_8 0 rfl) kc_4) ?_
                    exact s_end (fun h => h)
                  · refine s_if (g_icmp_lt (tgt := 367) (iRow iCX12_nextToken_7 18 rfl) (by decide)) (fun _ => ?_) (fun _ => ?_)
                    · refine s_step (g_keep [false, false] rfl) ?_
                      exact hj367 _
                    · refine s_step (g_iload_n (iRow iCX12_nextToken_7 19 rfl) rfl rfl) ?_
                      refine s_step (g_bipush (iRow iCX12_nextToken_7 20 rfl) kb_61) ?_
                      refine s_if (g_icmp_gt (tgt := 367) (iRow iCX12_nextToken_7 21 rfl) (by decide)) (fun _ => ?_) (fun _ => ?_)
                      · refine s_step (g_keep [false, false] rfl) ?_
                        exact hj367 _
                      · refine s_step (g_keep [false, false] rfl) ?_
                        exact hj363 _
              · refine s_if (g_icmp_lt (tgt := 345) (iRow iCX12_nextToken_7 9 rfl) (by decide)) (fun _ => ?_) (fun _ => ?_)
                · refine s_step (g_keep [false, true] rfl) ?_
                  exact hj345 _
                · refine s_step (g_iload_n (iRow iCX12_nextToken_7 10 rfl) rfl rfl) ?_
                  refine s_step (g_bipush (iRow iCX12_nextToken_7 11 rfl) kb_43) ?_
                  refine s_if (g_icmp_le (tgt := 363) (iRow iCX12_nextToken_7 12 rfl) (by decide)) (fun _ => ?_) (fun _ => ?_)
                  · refine s_step (g_keep [false, false] rfl) ?_
                    exact hj363 _
                  · refine s_step (g_keep [false, true] rfl) ?_
                    exact hj345 _
          · rintro x35
            show SW G (d + 1) YX12_nextToken Z 368 [none, none] [vI x35, vR 13 0] M34 _ _
            try dsimp only
            refine s_step (g_putI (iRow iCX12_nextToken_8 1 rfl) f12_182 (Or.inl rfl) ko_13) ?_
            refine s_nmM (fun M36 => ?_)
            exact s_retv (iRow iCX12_nextToken_8 2 rfl) rfl
        · refine s_if (g_icmp_lt (tgt := 322) (iRow iCX12_nextToken_4 16 rfl) (by decide)) (fun _ => ?_) (fun _ => ?_)
          · exact hj322 _
          · refine s_step (g_iload_n (iRow iCX12_nextToken_4 17 rfl) rfl rfl) ?_
            refine s_step (g_bipush (iRow iCX12_nextToken_4 18 rfl) kb_57) ?_
            refine s_if (g_icmp_gt (tgt := 322) (iRow iCX12_nextToken_4 19 rfl) (by decide)) (fun _ => ?_) (fun _ => ?_)
            · exact hj322 _
            · refine s_step (g_keep [true, false] rfl) ?_
              refine s_lp (fun z => [some (vR 13 0), none]) (fun z => z) (fun z => LM G (d + 1) YX12_nextToken Z 299 [some (vR 13 0), none] [] z) rfl rfl ?_ ?_
              · rintro M21
                show SW G (d + 1) YX12_nextToken Z 224 [some (vR 13 0), none] [] M21 (b_X12_nextToken_3c F M21) _
                unfold b_X12_nextToken_3c
                refine s_step (g_aload_n (iRow iCX12_nextToken_4 20 rfl) rfl rfl) ?_
                refine s_step (g_aload_n (iRow iCX12_nextToken_4 21 rfl) rfl rfl) ?_
                refine s_step (g_getI (iRow iCX12_nextToken_4 22 rfl) f12_169 ko_13) ?_
                refine s_cl (sf := fun x => vI x :: []) (fun _ _ h => h_V (As := [_]) (iRow iCX12_nextToken_4 23 rfl) l12_185 iX12_signAt ko_13 rfl rfl rfl rfl (t_X12_signAt (d + 0) h) rfl (by omega) (by decide) (Nat.le_of_ble_eq_true rfl)) (fun x23 M22 => ?_)
                refine s_step (g_bipush (iRow iCX12_nextToken_5 0 rfl) kb_48) ?_
                refine s_if (g_icmp_lt (tgt := 299) (iRow iCX12_nextToken_5 1 rfl) (by decide)) (fun _ => ?_) (fun _ => ?_)
                · exact s_end (fun h => h)
                · refine s_step (g_aload_n (iRow iCX12_nextToken_5 2 rfl) rfl rfl) ?_
                  refine s_step (g_aload_n (iRow iCX12_nextToken_5 3 rfl) rfl rfl) ?_
                  refine s_step (g_getI (iRow iCX12_nextToken_5 4 rfl) f12_169 ko_13) ?_
                  refine s_cl (sf := fun x => vI x :: []) (fun _ _ h => h_V (As := [_]) (iRow iCX12_nextToken_5 5 rfl) l12_185 iX12_signAt ko_13 rfl rfl rfl rfl (t_X12_signAt (d + 0) h) rfl (by omega) (by decide) (Nat.le_of_ble_eq_true rfl)) (fun x25 M24 => ?_)
                  refine s_step (g_bipush (iRow iCX12_nextToken_5 6 rfl) kb_57) ?_
                  refine s_if (g_icmp_gt (tgt := 299) (iRow iCX12_nextToken_5 7 rfl) (by decide)) (fun _ => ?_) (fun _ => ?_)
                  · exact s_end (fun h => h)
                  · refine s_step (g_aload_n (iRow iCX12_nextToken_5 8 rfl) rfl rfl) ?_
                    refine s_step (g_getI (iRow iCX12_nextToken_5 9 rfl) f12_169 ko_13) ?_
                    refine s_step (g_aload_n (iRow iCX12_nextToken_5 10 rfl) rfl rfl) ?_
                    refine s_step (g_getI (iRow iCX12_nextToken_5 11 rfl) f12_172 ko_13) ?_
                    refine s_step (g_isub (iRow iCX12_nextToken_5 12 rfl)) ?_
                    refine s_step (g_iconst (iRow iCX12_nextToken_5 13 rfl) kc_4) ?_
                    refine s_bd (fun z => LM G (d + 1) YX12_nextToken Z 286 [some (vR 13 0), none] [] z) ?_ ?_
                    · refine s_if (g_icmp_ge (tgt := 286) (iRow iCX12_nextToken_5 14 rfl) (by decide)) (fun _ => ?_) (fun _ => ?_)
                      · exact s_end (fun h => h)
                      · refine s_step (g_aload_n (iRow iCX12_nextToken_5 15 rfl) rfl rfl) ?_
                        refine s_step (g_aload_n (iRow iCX12_nextToken_5 16 rfl) rfl rfl) ?_
                        refine s_step (g_getI (iRow iCX12_nextToken_5 17 rfl) f12_179 ko_13) ?_
                        refine s_step (g_bipush (iRow iCX12_nextToken_5 18 rfl) kb_10) ?_
                        refine s_step (g_imul (iRow iCX12_nextToken_5 19 rfl)) ?_
                        refine s_step (g_aload_n (iRow iCX12_nextToken_5 20 rfl) rfl rfl) ?_
                        refine s_step (g_aload_n (iRow iCX12_nextToken_5 21 rfl) rfl rfl) ?_
                        refine s_step (g_getI (iRow iCX12_nextToken_5 22 rfl) f12_169 ko_13) ?_
                        refine s_cl (sf := fun x => vI x :: [vI ((M24.1 13 0 8) * (10 : Int32)), vR 13 0]) (fun _ _ h => h_V (As := [_]) (iRow iCX12_nextToken_5 23 rfl) l12_185 iX12_signAt ko_13 rfl rfl rfl rfl (t_X12_signAt (d + 0) h) rfl (by omega) (by decide) (Nat.le_of_ble_eq_true rfl)) (fun x27 M26 => ?_)
                        refine s_step (g_iadd (iRow iCX12_nextToken_6 0 rfl)) ?_
                        refine s_step (g_bipush (iRow iCX12_nextToken_6 1 rfl) kb_48) ?_
                        refine s_step (g_isub (iRow iCX12_nextToken_6 2 rfl)) ?_
                        refine s_step (g_putI (iRow iCX12_nextToken_6 3 rfl) f12_179 (Or.inl rfl) ko_13) ?_
                        refine s_nmM (fun M28 => ?_)
                        exact s_end (fun h => h)
                    · rintro M29
                      show SW G (d + 1) YX12_nextToken Z 286 [some (vR 13 0), none] [] M29 _ _
                      try dsimp only
                      refine s_step (g_aload_n (iRow iCX12_nextToken_6 4 rfl) rfl rfl) ?_
                      refine s_step (g_dup (iRow iCX12_nextToken_6 5 rfl) rfl) ?_
                      refine s_step (g_getI (iRow iCX12_nextToken_6 6 rfl) f12_169 ko_13) ?_
                      refine s_step (g_iconst (iRow iCX12_nextToken_6 7 rfl) kc_1) ?_
                      refine s_step (g_iadd (iRow iCX12_nextToken_6 8 rfl)) ?_
                      refine s_step (g_putI (iRow iCX12_nextToken_6 9 rfl) f12_169 (Or.inl rfl) ko_13) ?_
                      refine s_nmM (fun M30 => ?_)
                      refine s_step (g_goto (tgt := 224) (iRow iCX12_nextToken_6 10 rfl) (by decide)) ?_
                      exact s_end (fun h => h)
              · rintro M31
                show SW G (d + 1) YX12_nextToken Z 299 [some (vR 13 0), none] [] M31 _ _
                try dsimp only
                refine s_step (g_aload_n (iRow iCX12_nextToken_6 11 rfl) rfl rfl) ?_
                refine s_step (g_aload_n (iRow iCX12_nextToken_6 12 rfl) rfl rfl) ?_
                refine s_step (g_getI (iRow iCX12_nextToken_6 13 rfl) f12_169 ko_13) ?_
                refine s_step (g_aload_n (iRow iCX12_nextToken_6 14 rfl) rfl rfl) ?_
                refine s_step (g_getI (iRow iCX12_nextToken_6 15 rfl) f12_172 ko_13) ?_
                refine s_step (g_isub (iRow iCX12_nextToken_6 16 rfl)) ?_
                refine s_step (g_iconst (iRow iCX12_nextToken_6 17 rfl) kc_4) ?_
                refine s_bd (fun z => LM G (d + 1) YX12_nextToken Z 318 [none, none] [vI z, vR 13 0] M31) ?_ ?_
                · refine s_if (g_icmp_le (tgt := 317) (iRow iCX12_nextToken_6 18 rfl) (by decide)) (fun _ => ?_) (fun _ => ?_)
                  · refine s_step (g_iconst (iRow iCX12_nextToken_6 21 rfl) kc_2) ?_
                    refine s_step (g_keep [false, false] rfl) ?_
                    exact s_end (fun h => h)
                  · refine s_step (g_iconst (iRow iCX12_nextToken_6 19 rfl) kc_4) ?_
                    refine s_step (g_goto (tgt := 318) (iRow iCX12_nextToken_6 20 rfl) (by decide)) ?_
                    refine s_step (g_keep [false, false] rfl) ?_
                    exact s_end (fun h => h)
                · rintro x32
                  show SW G (d + 1) YX12_nextToken Z 318 [none, none] [vI x32, vR 13 0] M31 _ _
                  try dsimp only
                  refine s_step (g_putI (iRow iCX12_nextToken_6 22 rfl) f12_182 (Or.inl rfl) ko_13) ?_
                  refine s_nmM (fun M33 => ?_)
                  exact s_retv (iRow iCX12_nextToken_6 23 rfl) rfl
      · refine s_if (g_icmp_lt (tgt := 212) (iRow iCX12_nextToken_2 5 rfl) (by decide)) (fun _ => ?_) (fun _ => ?_)
        · exact hj212 _
        · refine s_step (g_iload_n (iRow iCX12_nextToken_2 6 rfl) rfl rfl) ?_
          refine s_step (g_bipush (iRow iCX12_nextToken_2 7 rfl) kb_122) ?_
          refine s_if (g_icmp_gt (tgt := 212) (iRow iCX12_nextToken_2 8 rfl) (by decide)) (fun _ => ?_) (fun _ => ?_)
          · exact hj212 _
          · refine s_step (g_keep [true, false] rfl) ?_
            refine s_lp (fun z => [some (vR 13 0), none]) (fun z => z) (fun z => LM G (d + 1) YX12_nextToken Z 188 [some (vR 13 0), none] [] z) rfl rfl ?_ ?_
            · rintro M8
              show SW G (d + 1) YX12_nextToken Z 109 [some (vR 13 0), none] [] M8 (b_X12_nextToken_2c F M8) _
              unfold b_X12_nextToken_2c
              refine s_step (g_aload_n (iRow iCX12_nextToken_2 9 rfl) rfl rfl) ?_
              refine s_step (g_aload_n (iRow iCX12_nextToken_2 10 rfl) rfl rfl) ?_
              refine s_step (g_getI (iRow iCX12_nextToken_2 11 rfl) f12_169 ko_13) ?_
              refine s_cl (sf := fun x => vI x :: []) (fun _ _ h => h_V (As := [_]) (iRow iCX12_nextToken_2 12 rfl) l12_185 iX12_signAt ko_13 rfl rfl rfl rfl (t_X12_signAt (d + 0) h) rfl (by omega) (by decide) (Nat.le_of_ble_eq_true rfl)) (fun x10 M9 => ?_)
              refine s_step (g_bipush (iRow iCX12_nextToken_2 13 rfl) kb_97) ?_
              refine s_if (g_icmp_lt (tgt := 188) (iRow iCX12_nextToken_2 14 rfl) (by decide)) (fun _ => ?_) (fun _ => ?_)
              · exact s_end (fun h => h)
              · refine s_step (g_aload_n (iRow iCX12_nextToken_2 15 rfl) rfl rfl) ?_
                refine s_step (g_aload_n (iRow iCX12_nextToken_2 16 rfl) rfl rfl) ?_
                refine s_step (g_getI (iRow iCX12_nextToken_2 17 rfl) f12_169 ko_13) ?_
                refine s_cl (sf := fun x => vI x :: []) (fun _ _ h => h_V (As := [_]) (iRow iCX12_nextToken_2 18 rfl) l12_185 iX12_signAt ko_13 rfl rfl rfl rfl (t_X12_signAt (d + 0) h) rfl (by omega) (by decide) (Nat.le_of_ble_eq_true rfl)) (fun x12 M11 => ?_)
                refine s_step (g_bipush (iRow iCX12_nextToken_2 19 rfl) kb_122) ?_
                refine s_if (g_icmp_gt (tgt := 188) (iRow iCX12_nextToken_2 20 rfl) (by decide)) (fun _ => ?_) (fun _ => ?_)
                · exact s_end (fun h => h)
                · refine s_step (g_aload_n (iRow iCX12_nextToken_2 21 rfl) rfl rfl) ?_
                  refine s_step (g_getI (iRow iCX12_nextToken_2 22 rfl) f12_169 ko_13) ?_
                  refine s_step (g_aload_n (iRow iCX12_nextToken_2 23 rfl) rfl rfl) ?_
                  refine s_step (g_getI (iRow iCX12_nextToken_3 0 rfl) f12_172 ko_13) ?_
                  refine s_step (g_isub (iRow iCX12_nextToken_3 1 rfl)) ?_
                  refine s_step (g_bipush (iRow iCX12_nextToken_3 2 rfl) kb_8) ?_
                  refine s_bd (fun z => LM G (d + 1) YX12_nextToken Z 175 [some (vR 13 0), none] [] z) ?_ ?_
                  · refine s_if (g_icmp_ge (tgt := 175) (iRow iCX12_nextToken_3 3 rfl) (by decide)) (fun _ => ?_) (fun _ => ?_)
                    · exact s_end (fun h => h)
                    · refine s_step (g_aload_n (iRow iCX12_nextToken_3 4 rfl) rfl rfl) ?_
                      refine s_step (g_aload_n (iRow iCX12_nextToken_3 5 rfl) rfl rfl) ?_
                      refine s_step (g_getL (iRow iCX12_nextToken_3 6 rfl) f12_175 ko_13) ?_
                      refine s_step (g_ldc2 (iRow iCX12_nextToken_3 7 rfl) k12_189) ?_
                      refine s_step (g_lmul (iRow iCX12_nextToken_3 8 rfl)) ?_
                      refine s_step (g_aload_n (iRow iCX12_nextToken_3 9 rfl) rfl rfl) ?_
                      refine s_step (g_aload_n (iRow iCX12_nextToken_3 10 rfl) rfl rfl) ?_
                      refine s_step (g_getI (iRow iCX12_nextToken_3 11 rfl) f12_169 ko_13) ?_
                      refine s_cl (sf := fun x => vI x :: [vL (((M11.2.1 13 0 7) * (27 : Int64))), vR 13 0]) (fun _ _ h => h_V (As := [_]) (iRow iCX12_nextToken_3 12 rfl) l12_185 iX12_signAt ko_13 rfl rfl rfl rfl (t_X12_signAt (d + 0) h) rfl (by omega) (by decide) (Nat.le_of_ble_eq_true rfl)) (fun x14 M13 => ?_)
                      refine s_step (g_i2l (iRow iCX12_nextToken_3 13 rfl)) ?_
                      refine s_step (g_ladd (iRow iCX12_nextToken_3 14 rfl)) ?_
                      refine s_step (g_ldc2 (iRow iCX12_nextToken_3 15 rfl) k12_191) ?_
                      refine s_step (g_lsub (iRow iCX12_nextToken_3 16 rfl)) ?_
                      refine s_step (g_putL (iRow iCX12_nextToken_3 17 rfl) f12_175 (Or.inl rfl) ko_13) ?_
                      refine s_nmM (fun M15 => ?_)
                      exact s_end (fun h => h)
                  · rintro M16
                    show SW G (d + 1) YX12_nextToken Z 175 [some (vR 13 0), none] [] M16 _ _
                    try dsimp only
                    refine s_step (g_aload_n (iRow iCX12_nextToken_3 18 rfl) rfl rfl) ?_
                    refine s_step (g_dup (iRow iCX12_nextToken_3 19 rfl) rfl) ?_
                    refine s_step (g_getI (iRow iCX12_nextToken_3 20 rfl) f12_169 ko_13) ?_
                    refine s_step (g_iconst (iRow iCX12_nextToken_3 21 rfl) kc_1) ?_
                    refine s_step (g_iadd (iRow iCX12_nextToken_3 22 rfl)) ?_
                    refine s_step (g_putI (iRow iCX12_nextToken_3 23 rfl) f12_169 (Or.inl rfl) ko_13) ?_
                    refine s_nmM (fun M17 => ?_)
                    refine s_step (g_goto (tgt := 109) (iRow iCX12_nextToken_4 0 rfl) (by decide)) ?_
                    exact s_end (fun h => h)
            · rintro M18
              show SW G (d + 1) YX12_nextToken Z 188 [some (vR 13 0), none] [] M18 _ _
              try dsimp only
              refine s_step (g_aload_n (iRow iCX12_nextToken_4 1 rfl) rfl rfl) ?_
              refine s_step (g_aload_n (iRow iCX12_nextToken_4 2 rfl) rfl rfl) ?_
              refine s_step (g_getI (iRow iCX12_nextToken_4 3 rfl) f12_169 ko_13) ?_
              refine s_step (g_aload_n (iRow iCX12_nextToken_4 4 rfl) rfl rfl) ?_
              refine s_step (g_getI (iRow iCX12_nextToken_4 5 rfl) f12_172 ko_13) ?_
              refine s_step (g_isub (iRow iCX12_nextToken_4 6 rfl)) ?_
              refine s_step (g_bipush (iRow iCX12_nextToken_4 7 rfl) kb_8) ?_
              refine s_bd (fun z => LM G (d + 1) YX12_nextToken Z 208 [none, none] [vI z, vR 13 0] M18) ?_ ?_
              · refine s_if (g_icmp_le (tgt := 207) (iRow iCX12_nextToken_4 8 rfl) (by decide)) (fun _ => ?_) (fun _ => ?_)
                · refine s_step (g_iconst (iRow iCX12_nextToken_4 11 rfl) kc_1) ?_
                  refine s_step (g_keep [false, false] rfl) ?_
                  exact s_end (fun h => h)
                · refine s_step (g_iconst (iRow iCX12_nextToken_4 9 rfl) kc_4) ?_
                  refine s_step (g_goto (tgt := 208) (iRow iCX12_nextToken_4 10 rfl) (by decide)) ?_
                  refine s_step (g_keep [false, false] rfl) ?_
                  exact s_end (fun h => h)
              · rintro x19
                show SW G (d + 1) YX12_nextToken Z 208 [none, none] [vI x19, vR 13 0] M18 _ _
                try dsimp only
                refine s_step (g_putI (iRow iCX12_nextToken_4 12 rfl) f12_182 (Or.inl rfl) ko_13) ?_
                refine s_nmM (fun M20 => ?_)
                exact s_retv (iRow iCX12_nextToken_4 13 rfl) rfl
abbrev YX12_isWord : mY := (RX12, "isWord", cX12_isWord, 3, (some .boolean), none)
set_option maxHeartbeats 400000 in
set_option maxRecDepth 20000 in
theorem t_X12_isWord {G : mg} {F : Nat} {a1 : Int64} {M : mm} {x : Bool} {M' : mm} (d : Nat) (h : m_X12_isWord F a1 M = some (x, M')) : CM G yX12_isWord cX12_isWord 3 (some .boolean) (d + 0) [vR 13 0, vL (a1)] M (some (vI (bI x))) M' := by
  refine ct_z (ls := [some (vR 13 0), some (vL (a1)), none]) rfl rfl (Nat.le_of_ble_eq_true rfl) (fun Z => ?_) h
  show SW G (d + 0) YX12_isWord Z 0 [some (vR 13 0), some (vL (a1)), none] [] M _ _
  unfold m_X12_isWord
  refine s_step (g_aload_n (iRow iCX12_isWord_0 0 rfl) rfl rfl) ?_
  refine s_step (g_getI (iRow iCX12_isWord_0 1 rfl) f12_182 ko_13) ?_
  refine s_step (g_iconst (iRow iCX12_isWord_0 2 rfl) kc_1) ?_
  refine s_ifn (g_icmp_ne (tgt := 21) (iRow iCX12_isWord_0 3 rfl) (by decide)) (fun _ => ?_) (fun _ => ?_)
  · refine s_step (g_aload_n (iRow iCX12_isWord_0 4 rfl) rfl rfl) ?_
    refine s_step (g_getL (iRow iCX12_isWord_0 5 rfl) f12_175 ko_13) ?_
    refine s_step (g_lload_n (iRow iCX12_isWord_0 6 rfl) rfl rfl) ?_
    refine s_step (g_lcmp (iRow iCX12_isWord_0 7 rfl)) ?_
    refine s_ifn (g_if_ne (tgt := 21) (iRow iCX12_isWord_0 8 rfl) (by decide)) (fun _ => ?_) (fun _ => ?_)
    · refine s_step (g_iconst (iRow iCX12_isWord_0 9 rfl) kc_1) ?_
      refine s_step (g_goto (tgt := 22) (iRow iCX12_isWord_0 10 rfl) (by decide)) ?_
      exact s_retz (b := true) (iRow iCX12_isWord_0 12 rfl) rfl rfl
    · refine s_step (g_iconst (iRow iCX12_isWord_0 11 rfl) kc_0) ?_
      exact s_retz (b := false) (iRow iCX12_isWord_0 12 rfl) rfl rfl
  · refine s_step (g_iconst (iRow iCX12_isWord_0 11 rfl) kc_0) ?_
    exact s_retz (b := false) (iRow iCX12_isWord_0 12 rfl) rfl rfl
abbrev YX12_isSign : mY := (RX12, "isSign", cX12_isSign, 2, (some .boolean), none)
set_option maxHeartbeats 400000 in
set_option maxRecDepth 20000 in
theorem t_X12_isSign {G : mg} {F : Nat} {a1 : Int32} {M : mm} {x : Bool} {M' : mm} (d : Nat) (h : m_X12_isSign F a1 M = some (x, M')) : CM G yX12_isSign cX12_isSign 2 (some .boolean) (d + 0) [vR 13 0, vI a1] M (some (vI (bI x))) M' := by
  refine ct_z (ls := [some (vR 13 0), some (vI a1)]) rfl rfl (Nat.le_of_ble_eq_true rfl) (fun Z => ?_) h
  show SW G (d + 0) YX12_isSign Z 0 [some (vR 13 0), some (vI a1)] [] M _ _
  unfold m_X12_isSign
  refine s_step (g_aload_n (iRow iCX12_isSign_0 0 rfl) rfl rfl) ?_
  refine s_step (g_getI (iRow iCX12_isSign_0 1 rfl) f12_182 ko_13) ?_
  refine s_step (g_iconst (iRow iCX12_isSign_0 2 rfl) kc_3) ?_
  refine s_ifn (g_icmp_ne (tgt := 25) (iRow iCX12_isSign_0 3 rfl) (by decide)) (fun _ => ?_) (fun _ => ?_)
  · refine s_step (g_aload_n (iRow iCX12_isSign_0 4 rfl) rfl rfl) ?_
    refine s_step (g_getR (iRow iCX12_isSign_0 5 rfl) f12_7 ko_13 (r_13_2 _ _)) ?_
    refine s_step (g_aload_n (iRow iCX12_isSign_0 6 rfl) rfl rfl) ?_
    refine s_step (g_getI (iRow iCX12_isSign_0 7 rfl) f12_172 ko_13) ?_
    refine s_gi (fun h => g_iald (iRow iCX12_isSign_0 8 rfl) kn_63 ka_63 h) ?_
    refine s_step (g_iload_n (iRow iCX12_isSign_0 9 rfl) rfl rfl) ?_
    refine s_ifn (g_icmp_ne (tgt := 25) (iRow iCX12_isSign_0 10 rfl) (by decide)) (fun _ => ?_) (fun _ => ?_)
    · refine s_step (g_iconst (iRow iCX12_isSign_0 11 rfl) kc_1) ?_
      refine s_step (g_goto (tgt := 26) (iRow iCX12_isSign_0 12 rfl) (by decide)) ?_
      exact s_retz (b := true) (iRow iCX12_isSign_0 14 rfl) rfl rfl
    · refine s_step (g_iconst (iRow iCX12_isSign_0 13 rfl) kc_0) ?_
      exact s_retz (b := false) (iRow iCX12_isSign_0 14 rfl) rfl rfl
  · refine s_step (g_iconst (iRow iCX12_isSign_0 13 rfl) kc_0) ?_
    exact s_retz (b := false) (iRow iCX12_isSign_0 14 rfl) rfl rfl
abbrev YX12_fails : mY := (RX12, "fails", cX12_fails, 2, (some .boolean), none)
set_option maxHeartbeats 400000 in
set_option maxRecDepth 20000 in
theorem t_X12_fails {G : mg} {F : Nat} {a1 : Int32} {M : mm} {x : Bool} {M' : mm} (d : Nat) (h : m_X12_fails F a1 M = some (x, M')) : CM G yX12_fails cX12_fails 2 (some .boolean) (d + 0) [vR 13 0, vI a1] M (some (vI (bI x))) M' := by
  refine ct_z (ls := [some (vR 13 0), some (vI a1)]) rfl rfl (Nat.le_of_ble_eq_true rfl) (fun Z => ?_) h
  show SW G (d + 0) YX12_fails Z 0 [some (vR 13 0), some (vI a1)] [] M _ _
  unfold m_X12_fails
  refine s_step (g_aload_n (iRow iCX12_fails_0 0 rfl) rfl rfl) ?_
  refine s_step (g_iload_n (iRow iCX12_fails_0 1 rfl) rfl rfl) ?_
  refine s_step (g_bipush (iRow iCX12_fails_0 2 rfl) kb_16) ?_
  refine s_step (g_aload_n (iRow iCX12_fails_0 3 rfl) rfl rfl) ?_
  refine s_step (g_getI (iRow iCX12_fails_0 4 rfl) f12_172 ko_13) ?_
  refine s_step (g_imul (iRow iCX12_fails_0 5 rfl)) ?_
  refine s_step (g_iadd (iRow iCX12_fails_0 6 rfl)) ?_
  refine s_step (g_putI (iRow iCX12_fails_0 7 rfl) f12_193 (Or.inl rfl) ko_13) ?_
  refine s_nmM (fun M1 => ?_)
  refine s_step (g_iconst (iRow iCX12_fails_0 8 rfl) kc_0) ?_
  exact s_retz (b := false) (iRow iCX12_fails_0 9 rfl) rfl rfl
abbrev YX12_plain : mY := (RX12, "plain", cX12_plain, 3, none, none)
set_option maxHeartbeats 400000 in
set_option maxRecDepth 20000 in
theorem t_X12_plain {G : mg} {F : Nat} {a1 : Int32} {M : mm} {M' : mm} (d : Nat) (h : m_X12_plain F a1 M = some M') : CM G yX12_plain cX12_plain 3 none (d + 0) [vR 13 0, vI a1] M none M' := by
  refine ct_v (ls := [some (vR 13 0), some (vI a1), none]) rfl rfl (Nat.le_of_ble_eq_true rfl) (fun Z => ?_) h
  show SW G (d + 0) YX12_plain Z 0 [some (vR 13 0), some (vI a1), none] [] M _ _
  unfold m_X12_plain
  refine s_step (g_iconst (iRow iCX12_plain_0 0 rfl) kc_0) ?_
  refine s_step (g_istore_n (ls' := [some (vR 13 0), some (vI a1), some (vI (0 : Int32))]) (iRow iCX12_plain_0 1 rfl) rfl (by decide) rfl) ?_
  refine s_lp (fun z => [some (vR 13 0), some (vI a1), some (vI (z.1))]) (fun z => z.2) (fun z => LM G (d + 0) YX12_plain Z 26 [some (vR 13 0), some (vI a1), none] [] z) rfl rfl ?_ ?_
  · rintro ⟨x1, M2⟩
    show SW G (d + 0) YX12_plain Z 2 [some (vR 13 0), some (vI a1), some (vI x1)] [] M2 (b_X12_plain_1c F a1 x1 M2) _
    unfold b_X12_plain_1c
    refine s_step (g_iload_n (iRow iCX12_plain_0 2 rfl) rfl rfl) ?_
    refine s_step (g_bipush (iRow iCX12_plain_0 3 rfl) kb_6) ?_
    refine s_if (g_icmp_ge (tgt := 26) (iRow iCX12_plain_0 4 rfl) (by decide)) (fun _ => ?_) (fun _ => ?_)
    · refine s_step (g_keep [true, true, false] rfl) ?_
      exact s_end (fun h => h)
    · refine s_step (g_aload_n (iRow iCX12_plain_0 5 rfl) rfl rfl) ?_
      refine s_step (g_getR (iRow iCX12_plain_0 6 rfl) f12_13 ko_13 (r_13_10 _ _)) ?_
      refine s_step (g_bipush (iRow iCX12_plain_0 7 rfl) kb_6) ?_
      refine s_step (g_iload_n (iRow iCX12_plain_0 8 rfl) rfl rfl) ?_
      refine s_step (g_imul (iRow iCX12_plain_0 9 rfl)) ?_
      refine s_step (g_iload_n (iRow iCX12_plain_0 10 rfl) rfl rfl) ?_
      refine s_step (g_iadd (iRow iCX12_plain_0 11 rfl)) ?_
      refine s_step (g_iconst (iRow iCX12_plain_0 12 rfl) kc_0) ?_
      refine s_gi (fun h => g_iast (iRow iCX12_plain_0 13 rfl) kn_64 ka_64 h) ?_
      refine s_nmM (fun M3 => ?_)
      refine s_step (g_iincc (c := 1) (ls' := [some (vR 13 0), some (vI a1), some (vI (x1 + (1 : Int32)))]) (iRow iCX12_plain_0 14 rfl) rfl kc_1 (by decide) rfl) ?_
      refine s_step (g_goto (tgt := 2) (iRow iCX12_plain_0 15 rfl) (by decide)) ?_
      exact s_end (fun h => h)
  · rintro M4
    show SW G (d + 0) YX12_plain Z 26 [some (vR 13 0), some (vI a1), none] [] M4 _ _
    try dsimp only
    refine s_step (g_aload_n (iRow iCX12_plain_0 16 rfl) rfl rfl) ?_
    refine s_step (g_getR (iRow iCX12_plain_0 17 rfl) f12_13 ko_13 (r_13_10 _ _)) ?_
    refine s_step (g_bipush (iRow iCX12_plain_0 18 rfl) kb_6) ?_
    refine s_step (g_iload_n (iRow iCX12_plain_0 19 rfl) rfl rfl) ?_
    refine s_step (g_imul (iRow iCX12_plain_0 20 rfl)) ?_
    refine s_step (g_iconst (iRow iCX12_plain_0 21 rfl) kc_3) ?_
    refine s_step (g_iadd (iRow iCX12_plain_0 22 rfl)) ?_
    refine s_step (g_iconst (iRow iCX12_plain_0 23 rfl) kc_5) ?_
    refine s_gi (fun h => g_iast (iRow iCX12_plain_1 0 rfl) kn_64 ka_64 h) ?_
    refine s_nmM (fun M5 => ?_)
    refine s_step (g_aload_n (iRow iCX12_plain_1 1 rfl) rfl rfl) ?_
    refine s_step (g_getR (iRow iCX12_plain_1 2 rfl) f12_59 ko_13 (r_13_25 _ _)) ?_
    refine s_step (g_iload_n (iRow iCX12_plain_1 3 rfl) rfl rfl) ?_
    refine s_step (g_sipush (iRow iCX12_plain_1 4 rfl) ks_1000) ?_
    refine s_step (g_iload_n (iRow iCX12_plain_1 5 rfl) rfl rfl) ?_
    refine s_step (g_imul (iRow iCX12_plain_1 6 rfl)) ?_
    refine s_gi (fun h => g_iast (iRow iCX12_plain_1 7 rfl) kn_79 ka_79 h) ?_
    refine s_nmM (fun M6 => ?_)
    refine s_step (g_aload_n (iRow iCX12_plain_1 8 rfl) rfl rfl) ?_
    refine s_step (g_getR (iRow iCX12_plain_1 9 rfl) f12_62 ko_13 (r_13_26 _ _)) ?_
    refine s_step (g_iload_n (iRow iCX12_plain_1 10 rfl) rfl rfl) ?_
    refine s_step (g_sipush (iRow iCX12_plain_1 11 rfl) ks_1000) ?_
    refine s_step (g_iload_n (iRow iCX12_plain_1 12 rfl) rfl rfl) ?_
    refine s_step (g_imul (iRow iCX12_plain_1 13 rfl)) ?_
    refine s_gi (fun h => g_iast (iRow iCX12_plain_1 14 rfl) kn_80 ka_80 h) ?_
    refine s_nmM (fun M7 => ?_)
    exact s_retv (iRow iCX12_plain_1 15 rfl) rfl
abbrev YX12_puts : mY := (RX12, "puts", cX12_puts, 2, none, none)
set_option maxHeartbeats 400000 in
set_option maxRecDepth 20000 in
theorem t_X12_puts {G : mg} {F : Nat} {a1 : Int32} {M : mm} {M' : mm} (d : Nat) (h : m_X12_puts F a1 M = some M') : CM G yX12_puts cX12_puts 2 none (d + 0) [vR 13 0, vI a1] M none M' := by
  refine ct_v (ls := [some (vR 13 0), some (vI a1)]) rfl rfl (Nat.le_of_ble_eq_true rfl) (fun Z => ?_) h
  show SW G (d + 0) YX12_puts Z 0 [some (vR 13 0), some (vI a1)] [] M _ _
  unfold m_X12_puts
  refine s_step (g_aload_n (iRow iCX12_puts_0 0 rfl) rfl rfl) ?_
  refine s_step (g_getR (iRow iCX12_puts_0 1 rfl) f12_65 ko_13 (r_13_27 _ _)) ?_
  refine s_step (g_aload_n (iRow iCX12_puts_0 2 rfl) rfl rfl) ?_
  refine s_step (g_getI (iRow iCX12_puts_0 3 rfl) f12_196 ko_13) ?_
  refine s_step (g_iload_n (iRow iCX12_puts_0 4 rfl) rfl rfl) ?_
  refine s_gi (fun h => g_iast (iRow iCX12_puts_0 5 rfl) kn_81 ka_81 h) ?_
  refine s_nmM (fun M1 => ?_)
  refine s_step (g_aload_n (iRow iCX12_puts_0 6 rfl) rfl rfl) ?_
  refine s_step (g_dup (iRow iCX12_puts_0 7 rfl) rfl) ?_
  refine s_step (g_getI (iRow iCX12_puts_0 8 rfl) f12_196 ko_13) ?_
  refine s_step (g_iconst (iRow iCX12_puts_0 9 rfl) kc_1) ?_
  refine s_step (g_iadd (iRow iCX12_puts_0 10 rfl)) ?_
  refine s_step (g_putI (iRow iCX12_puts_0 11 rfl) f12_196 (Or.inl rfl) ko_13) ?_
  refine s_nmM (fun M2 => ?_)
  exact s_retv (iRow iCX12_puts_0 12 rfl) rfl
abbrev YX12_fact : mY := (RX12, "fact", cX12_fact, 1, (some .int), none)
set_option maxHeartbeats 400000 in
set_option maxRecDepth 20000 in
theorem t_X12_fact {G : mg} {F : Nat} {M : mm} {x : Int32} {M' : mm} (d : Nat) (h : m_X12_fact F M = some (x, M')) : CM G yX12_fact cX12_fact 1 (some .int) (d + 0) [vR 13 0] M (some (vI x)) M' := by
  refine ct_i (ls := [some (vR 13 0)]) rfl rfl (Nat.le_of_ble_eq_true rfl) (fun Z => ?_) h
  show SW G (d + 0) YX12_fact Z 0 [some (vR 13 0)] [] M _ _
  unfold m_X12_fact
  refine s_step (g_aload_n (iRow iCX12_fact_0 0 rfl) rfl rfl) ?_
  refine s_step (g_getI (iRow iCX12_fact_0 1 rfl) f12_182 ko_13) ?_
  refine s_step (g_iconst (iRow iCX12_fact_0 2 rfl) kc_1) ?_
  refine s_if (g_icmp_eq (tgt := 10) (iRow iCX12_fact_0 3 rfl) (by decide)) (fun _ => ?_) (fun _ => ?_)
  · refine s_step (g_aload_n (iRow iCX12_fact_0 6 rfl) rfl rfl) ?_
    refine s_step (g_getL (iRow iCX12_fact_0 7 rfl) f12_175 ko_13) ?_
    refine s_step (g_ldc2 (iRow iCX12_fact_0 8 rfl) k12_199) ?_
    refine s_step (g_lcmp (iRow iCX12_fact_0 9 rfl)) ?_
    refine s_ifn (g_if_ne (tgt := 25) (iRow iCX12_fact_0 10 rfl) (by decide)) (fun _ => ?_) (fun _ => ?_)
    · refine s_step (g_iconst (iRow iCX12_fact_0 11 rfl) kc_1) ?_
      refine s_step (g_goto (tgt := 71) (iRow iCX12_fact_0 12 rfl) (by decide)) ?_
      exact s_reti (iRow iCX12_fact_1 11 rfl) rfl
    · refine s_step (g_aload_n (iRow iCX12_fact_0 13 rfl) rfl rfl) ?_
      refine s_step (g_getL (iRow iCX12_fact_0 14 rfl) f12_175 ko_13) ?_
      refine s_step (g_ldc2 (iRow iCX12_fact_0 15 rfl) k12_201) ?_
      refine s_step (g_lcmp (iRow iCX12_fact_0 16 rfl)) ?_
      refine s_ifn (g_if_ne (tgt := 40) (iRow iCX12_fact_0 17 rfl) (by decide)) (fun _ => ?_) (fun _ => ?_)
      · refine s_step (g_iconst (iRow iCX12_fact_0 18 rfl) kc_2) ?_
        refine s_step (g_goto (tgt := 71) (iRow iCX12_fact_0 19 rfl) (by decide)) ?_
        exact s_reti (iRow iCX12_fact_1 11 rfl) rfl
      · refine s_step (g_aload_n (iRow iCX12_fact_0 20 rfl) rfl rfl) ?_
        refine s_step (g_getL (iRow iCX12_fact_0 21 rfl) f12_175 ko_13) ?_
        refine s_step (g_ldc2 (iRow iCX12_fact_0 22 rfl) k12_203) ?_
        refine s_step (g_lcmp (iRow iCX12_fact_0 23 rfl)) ?_
        refine s_ifn (g_if_ne (tgt := 55) (iRow iCX12_fact_1 0 rfl) (by decide)) (fun _ => ?_) (fun _ => ?_)
        · refine s_step (g_iconst (iRow iCX12_fact_1 1 rfl) kc_3) ?_
          refine s_step (g_goto (tgt := 71) (iRow iCX12_fact_1 2 rfl) (by decide)) ?_
          exact s_reti (iRow iCX12_fact_1 11 rfl) rfl
        · refine s_step (g_aload_n (iRow iCX12_fact_1 3 rfl) rfl rfl) ?_
          refine s_step (g_getL (iRow iCX12_fact_1 4 rfl) f12_175 ko_13) ?_
          refine s_step (g_ldc2 (iRow iCX12_fact_1 5 rfl) k12_205) ?_
          refine s_step (g_lcmp (iRow iCX12_fact_1 6 rfl)) ?_
          refine s_ifn (g_if_ne (tgt := 70) (iRow iCX12_fact_1 7 rfl) (by decide)) (fun _ => ?_) (fun _ => ?_)
          · refine s_step (g_iconst (iRow iCX12_fact_1 8 rfl) kc_4) ?_
            refine s_step (g_goto (tgt := 71) (iRow iCX12_fact_1 9 rfl) (by decide)) ?_
            exact s_reti (iRow iCX12_fact_1 11 rfl) rfl
          · refine s_step (g_iconst (iRow iCX12_fact_1 10 rfl) kc_0) ?_
            exact s_reti (iRow iCX12_fact_1 11 rfl) rfl
  · refine s_step (g_iconst (iRow iCX12_fact_0 4 rfl) kc_0) ?_
    exact s_reti (iRow iCX12_fact_0 5 rfl) rfl
abbrev YX12_reads : mY := (RX12, "reads", cX12_reads, 6, (some .boolean), none)
set_option maxHeartbeats 400000 in
set_option maxRecDepth 20000 in
theorem t_X12_reads {G : mg} {F : Nat} {M : mm} {x : Bool} {M' : mm} (d : Nat) (h : m_X12_reads F M = some (x, M')) : CM G yX12_reads cX12_reads 6 (some .boolean) (d + 2) [vR 13 0] M (some (vI (bI x))) M' := by
  refine ct_z (ls := [some (vR 13 0), none, none, none, none, none]) rfl rfl (Nat.le_of_ble_eq_true rfl) (fun Z => ?_) h
  show SW G (d + 2) YX12_reads Z 0 [some (vR 13 0), none, none, none, none, none] [] M _ _
  unfold m_X12_reads
  refine s_step (g_iconst (iRow iCX12_reads_0 0 rfl) kc_0) ?_
  refine s_step (g_istore_n (ls' := [some (vR 13 0), some (vI (0 : Int32)), none, none, none, none]) (iRow iCX12_reads_0 1 rfl) rfl (by decide) rfl) ?_
  refine s_step (g_iconst (iRow iCX12_reads_0 2 rfl) kc_1) ?_
  refine s_step (g_istore_n (ls' := [some (vR 13 0), some (vI (0 : Int32)), some (vI (1 : Int32)), none, none, none]) (iRow iCX12_reads_0 3 rfl) rfl (by decide) rfl) ?_
  refine s_step (g_aload_n (iRow iCX12_reads_0 4 rfl) rfl rfl) ?_
  refine s_step (g_getR (iRow iCX12_reads_0 5 rfl) f12_71 ko_13 (r_13_31 _ _)) ?_
  refine s_step (g_iconst (iRow iCX12_reads_0 6 rfl) kc_0) ?_
  refine s_step (g_iconst (iRow iCX12_reads_0 7 rfl) kc_0) ?_
  refine s_gi (fun h => g_zast (iRow iCX12_reads_0 8 rfl) kn_83 ka_83 h) ?_
  refine s_nmM (fun M1 => ?_)
  refine s_lp (fun z => [some (vR 13 0), some (vI (z.1)), some (vI (z.2.1)), none, none, none]) (fun z => z.2.2) (Sum.elim (fun z => LM G (d + 2) YX12_reads Z 59 [some (vR 13 0), none, none, none, none, none] [] z) (Sum.elim (fun z => LM G (d + 2) YX12_reads Z 70 [some (vR 13 0), none, none, none, none, none] [] z) (fun z => LM G (d + 2) YX12_reads Z 399 [some (vR 13 0), some (vI (z.1)), none, none, none, none] [] z.2))) rfl rfl ?_ ?_
  · rintro ⟨x2, x3, M4⟩
    show SW G (d + 2) YX12_reads Z 11 [some (vR 13 0), some (vI x2), some (vI x3), none, none, none] [] M4 (b_X12_reads_1c F x2 x3 M4) _
    unfold b_X12_reads_1c
    refine s_step (g_iload_n (iRow iCX12_reads_0 9 rfl) rfl rfl) ?_
    refine s_if (g_if_eq (tgt := 179) (iRow iCX12_reads_0 10 rfl) (by decide)) (fun _ => ?_) (fun _ => ?_)
    · refine s_step (g_aload_n (iRow iCX12_reads_3 23 rfl) rfl rfl) ?_
      refine s_step (g_bipush (iRow iCX12_reads_4 0 rfl) kb_43) ?_
      refine s_cb (sf := fun b => vI (bI b) :: []) (fun _ _ h => h_V (As := [_]) (iRow iCX12_reads_4 1 rfl) l12_217 iX12_isSign ko_13 rfl rfl rfl rfl (t_X12_isSign (d + 1) h) rfl (by omega) (by decide) (Nat.le_of_ble_eq_true rfl)) (fun b6 M5 => ?_)
      refine s_nj 424 (fun z => [some (vR 13 0), some (vI (z.1)), some (vI (z.2.1)), none, none, none]) (fun z => []) (fun z => z.2.2) ?_ (fun j424 hj424 => ?_)
      · rintro ⟨x45, x46, M47⟩
        show SW G (d + 2) YX12_reads Z 424 [some (vR 13 0), some (vI x45), some (vI x46), none, none, none] [] M47 _ _
        try dsimp only
        refine s_step (g_aload_n (iRow iCX12_reads_8 22 rfl) rfl rfl) ?_
        refine s_cv (stA := []) (fun _ h => h_V (As := []) (iRow iCX12_reads_8 23 rfl) l12_227 iX12_nextToken ko_13 rfl rfl rfl rfl (t_X12_nextToken (d + 0) h) rfl (by omega) (by decide) (Nat.le_of_ble_eq_true rfl)) (fun M48 => ?_)
        refine s_step (g_goto (tgt := 11) (iRow iCX12_reads_9 0 rfl) (by decide)) ?_
        exact s_end (fun h => h)
      · refine s_nj 206 (fun z => [some (vR 13 0), some (vI x2), none, none, none, none]) (fun z => []) (fun z => z) ?_ (fun j206 hj206 => ?_)
        · rintro M37
          show SW G (d + 2) YX12_reads Z 206 [some (vR 13 0), some (vI x2), none, none, none, none] [] M37 _ _
          try dsimp only
          refine s_step (g_aload_n (iRow iCX12_reads_4 11 rfl) rfl rfl) ?_
          refine s_step (g_aload_n (iRow iCX12_reads_4 12 rfl) rfl rfl) ?_
          refine s_step (g_bipush (iRow iCX12_reads_4 13 rfl) kb_43) ?_
          refine s_cb (sf := fun b => vI (bI b) :: [vR 13 0]) (fun _ _ h => h_V (As := [_]) (iRow iCX12_reads_4 14 rfl) l12_217 iX12_isSign ko_13 rfl rfl rfl rfl (t_X12_isSign (d + 1) h) rfl (by omega) (by decide) (Nat.le_of_ble_eq_true rfl)) (fun b39 M38 => ?_)
          refine s_bd (fun z => LM G (d + 2) YX12_reads Z 237 [some (vR 13 0), some (vI x2), none, none, none, none] [vI (z.1), vR 13 0] z.2) ?_ ?_
          · refine s_ifeqb (g_if_eq (tgt := 221) (iRow iCX12_reads_4 15 rfl) (by decide)) (fun _ => ?_) (fun _ => ?_)
            · refine s_step (g_bipush (iRow iCX12_reads_4 16 rfl) kb_20) ?_
              refine s_step (g_goto (tgt := 237) (iRow iCX12_reads_4 17 rfl) (by decide)) ?_
              exact s_end (fun h => h)
            · refine s_step (g_aload_n (iRow iCX12_reads_4 18 rfl) rfl rfl) ?_
              refine s_step (g_bipush (iRow iCX12_reads_4 19 rfl) kb_45) ?_
              refine s_cb (sf := fun b => vI (bI b) :: [vR 13 0]) (fun _ _ h => h_V (As := [_]) (iRow iCX12_reads_4 20 rfl) l12_217 iX12_isSign ko_13 rfl rfl rfl rfl (t_X12_isSign (d + 1) h) rfl (by omega) (by decide) (Nat.le_of_ble_eq_true rfl)) (fun b41 M40 => ?_)
              refine s_ifeqb (g_if_eq (tgt := 235) (iRow iCX12_reads_4 21 rfl) (by decide)) (fun _ => ?_) (fun _ => ?_)
              · refine s_step (g_bipush (iRow iCX12_reads_4 22 rfl) kb_21) ?_
                refine s_step (g_goto (tgt := 237) (iRow iCX12_reads_4 23 rfl) (by decide)) ?_
                exact s_end (fun h => h)
              · refine s_step (g_bipush (iRow iCX12_reads_5 0 rfl) kb_22) ?_
                exact s_end (fun h => h)
          · rintro ⟨x42, M43⟩
            show SW G (d + 2) YX12_reads Z 237 [some (vR 13 0), some (vI x2), none, none, none, none] [vI x42, vR 13 0] M43 _ _
            try dsimp only
            refine s_cv (stA := []) (fun _ h => h_V (As := [_]) (iRow iCX12_reads_5 1 rfl) l12_224 iX12_puts ko_13 rfl rfl rfl rfl (t_X12_puts (d + 1) h) rfl (by omega) (by decide) (Nat.le_of_ble_eq_true rfl)) (fun M44 => ?_)
            refine s_step (g_iconst (iRow iCX12_reads_5 2 rfl) kc_1) ?_
            refine s_step (g_istore_n (ls' := [some (vR 13 0), some (vI x2), some (vI (1 : Int32)), none, none, none]) (iRow iCX12_reads_5 3 rfl) rfl (by decide) rfl) ?_
            refine s_step (g_goto (tgt := 424) (iRow iCX12_reads_5 4 rfl) (by decide)) ?_
            exact hj424 _
        · refine s_ifneb (g_if_ne (tgt := 206) (iRow iCX12_reads_4 2 rfl) (by decide)) (fun _ => ?_) (fun _ => ?_)
          · refine s_step (g_keep [true, true, false, false, false, false] rfl) ?_
            exact hj206 _
          · refine s_step (g_aload_n (iRow iCX12_reads_4 3 rfl) rfl rfl) ?_
            refine s_step (g_bipush (iRow iCX12_reads_4 4 rfl) kb_45) ?_
            refine s_cb (sf := fun b => vI (bI b) :: []) (fun _ _ h => h_V (As := [_]) (iRow iCX12_reads_4 5 rfl) l12_217 iX12_isSign ko_13 rfl rfl rfl rfl (t_X12_isSign (d + 1) h) rfl (by omega) (by decide) (Nat.le_of_ble_eq_true rfl)) (fun b8 M7 => ?_)
            refine s_ifneb (g_if_ne (tgt := 206) (iRow iCX12_reads_4 6 rfl) (by decide)) (fun _ => ?_) (fun _ => ?_)
            · refine s_step (g_keep [true, true, false, false, false, false] rfl) ?_
              exact hj206 _
            · refine s_step (g_aload_n (iRow iCX12_reads_4 7 rfl) rfl rfl) ?_
              refine s_step (g_bipush (iRow iCX12_reads_4 8 rfl) kb_42) ?_
              refine s_cb (sf := fun b => vI (bI b) :: []) (fun _ _ h => h_V (As := [_]) (iRow iCX12_reads_4 9 rfl) l12_217 iX12_isSign ko_13 rfl rfl rfl rfl (t_X12_isSign (d + 1) h) rfl (by omega) (by decide) (Nat.le_of_ble_eq_true rfl)) (fun b10 M9 => ?_)
              refine s_ifeqb (g_if_eq (tgt := 245) (iRow iCX12_reads_4 10 rfl) (by decide)) (fun _ => ?_) (fun _ => ?_)
              · refine s_step (g_keep [true, true, false, false, false, false] rfl) ?_
                exact hj206 _
              · refine s_step (g_aload_n (iRow iCX12_reads_5 5 rfl) rfl rfl) ?_
                refine s_step (g_bipush (iRow iCX12_reads_5 6 rfl) kb_60) ?_
                refine s_cb (sf := fun b => vI (bI b) :: []) (fun _ _ h => h_V (As := [_]) (iRow iCX12_reads_5 7 rfl) l12_217 iX12_isSign ko_13 rfl rfl rfl rfl (t_X12_isSign (d + 1) h) rfl (by omega) (by decide) (Nat.le_of_ble_eq_true rfl)) (fun b12 M11 => ?_)
                refine s_nj 304 (fun z => [some (vR 13 0), some (vI x2), some (vI x3), none, none, none]) (fun z => []) (fun z => z) ?_ (fun j304 hj304 => ?_)
                · rintro M21
                  show SW G (d + 2) YX12_reads Z 304 [some (vR 13 0), some (vI x2), some (vI x3), none, none, none] [] M21 _ _
                  try dsimp only
                  refine s_step (g_aload_n (iRow iCX12_reads_6 11 rfl) rfl rfl) ?_
                  refine s_step (g_ldc2 (iRow iCX12_reads_6 12 rfl) k12_230) ?_
                  refine s_cb (sf := fun b => vI (bI b) :: []) (fun _ _ h => h_V (As := [_]) (iRow iCX12_reads_6 13 rfl) l12_213 iX12_isWord ko_13 rfl rfl rfl rfl (t_X12_isWord (d + 1) h) rfl (by omega) (by decide) (Nat.le_of_ble_eq_true rfl)) (fun b23 M22 => ?_)
                  refine s_nj 324 (fun z => [some (vR 13 0), some (vI x2), none, none, none, none]) (fun z => []) (fun z => z) ?_ (fun j324 hj324 => ?_)
                  · rintro M31
                    show SW G (d + 2) YX12_reads Z 324 [some (vR 13 0), some (vI x2), none, none, none, none] [] M31 _ _
                    try dsimp only
                    refine s_step (g_aload_n (iRow iCX12_reads_6 19 rfl) rfl rfl) ?_
                    refine s_step (g_aload_n (iRow iCX12_reads_6 20 rfl) rfl rfl) ?_
                    refine s_step (g_ldc2 (iRow iCX12_reads_6 21 rfl) k12_230) ?_
                    refine s_cb (sf := fun b => vI (bI b) :: [vR 13 0]) (fun _ _ h => h_V (As := [_]) (iRow iCX12_reads_6 22 rfl) l12_213 iX12_isWord ko_13 rfl rfl rfl rfl (t_X12_isWord (d + 1) h) rfl (by omega) (by decide) (Nat.le_of_ble_eq_true rfl)) (fun b33 M32 => ?_)
                    refine s_bd (fun z => LM G (d + 2) YX12_reads Z 342 [some (vR 13 0), some (vI x2), none, none, none, none] [vI z, vR 13 0] M32) ?_ ?_
                    · refine s_ifeqb (g_if_eq (tgt := 340) (iRow iCX12_reads_6 23 rfl) (by decide)) (fun _ => ?_) (fun _ => ?_)
                      · refine s_step (g_bipush (iRow iCX12_reads_7 0 rfl) kb_26) ?_
                        refine s_step (g_goto (tgt := 342) (iRow iCX12_reads_7 1 rfl) (by decide)) ?_
                        exact s_end (fun h => h)
                      · refine s_step (g_bipush (iRow iCX12_reads_7 2 rfl) kb_27) ?_
                        exact s_end (fun h => h)
                    · rintro x34
                      show SW G (d + 2) YX12_reads Z 342 [some (vR 13 0), some (vI x2), none, none, none, none] [vI x34, vR 13 0] M32 _ _
                      try dsimp only
                      refine s_cv (stA := []) (fun _ h => h_V (As := [_]) (iRow iCX12_reads_7 3 rfl) l12_224 iX12_puts ko_13 rfl rfl rfl rfl (t_X12_puts (d + 1) h) rfl (by omega) (by decide) (Nat.le_of_ble_eq_true rfl)) (fun M35 => ?_)
                      refine s_step (g_aload_n (iRow iCX12_reads_7 4 rfl) rfl rfl) ?_
                      refine s_step (g_getR (iRow iCX12_reads_7 5 rfl) f12_71 ko_13 (r_13_31 _ _)) ?_
                      refine s_step (g_iload_n (iRow iCX12_reads_7 6 rfl) rfl rfl) ?_
                      refine s_step (g_iconst (iRow iCX12_reads_7 7 rfl) kc_0) ?_
                      refine s_gi (fun h => g_zast (iRow iCX12_reads_7 8 rfl) kn_83 ka_83 h) ?_
                      refine s_nmM (fun M36 => ?_)
                      refine s_step (g_iconst (iRow iCX12_reads_7 9 rfl) kc_1) ?_
                      refine s_step (g_istore_n (ls' := [some (vR 13 0), some (vI x2), some (vI (1 : Int32)), none, none, none]) (iRow iCX12_reads_7 10 rfl) rfl (by decide) rfl) ?_
                      refine s_step (g_goto (tgt := 424) (iRow iCX12_reads_7 11 rfl) (by decide)) ?_
                      exact hj424 _
                  · refine s_ifneb (g_if_ne (tgt := 324) (iRow iCX12_reads_6 14 rfl) (by decide)) (fun _ => ?_) (fun _ => ?_)
                    · refine s_step (g_keep [true, true, false, false, false, false] rfl) ?_
                      exact hj324 _
                    · refine s_step (g_aload_n (iRow iCX12_reads_6 15 rfl) rfl rfl) ?_
                      refine s_step (g_ldc2 (iRow iCX12_reads_6 16 rfl) k12_232) ?_
                      refine s_cb (sf := fun b => vI (bI b) :: []) (fun _ _ h => h_V (As := [_]) (iRow iCX12_reads_6 17 rfl) l12_213 iX12_isWord ko_13 rfl rfl rfl rfl (t_X12_isWord (d + 1) h) rfl (by omega) (by decide) (Nat.le_of_ble_eq_true rfl)) (fun b25 M24 => ?_)
                      refine s_ifeqb (g_if_eq (tgt := 357) (iRow iCX12_reads_6 18 rfl) (by decide)) (fun _ => ?_) (fun _ => ?_)
                      · refine s_step (g_keep [true, true, false, false, false, false] rfl) ?_
                        exact hj324 _
                      · refine s_step (g_aload_n (iRow iCX12_reads_7 12 rfl) rfl rfl) ?_
                        refine s_step (g_bipush (iRow iCX12_reads_7 13 rfl) kb_41) ?_
                        refine s_cb (sf := fun b => vI (bI b) :: []) (fun _ _ h => h_V (As := [_]) (iRow iCX12_reads_7 14 rfl) l12_217 iX12_isSign ko_13 rfl rfl rfl rfl (t_X12_isSign (d + 1) h) rfl (by omega) (by decide) (Nat.le_of_ble_eq_true rfl)) (fun b27 M26 => ?_)
                        refine s_ifeqb (g_if_eq (tgt := 399) (iRow iCX12_reads_7 15 rfl) (by decide)) (fun _ => ?_) (fun _ => ?_)
                        · refine s_step (g_iload_n (iRow iCX12_reads_7 16 rfl) rfl rfl) ?_
                          refine s_if (g_if_le (tgt := 399) (iRow iCX12_reads_7 17 rfl) (by decide)) (fun _ => ?_) (fun _ => ?_)
                          · refine s_step (g_keep [true, true, false, false, false, false] rfl) ?_
                            exact s_end (fun h => h)
                          · refine s_step (g_aload_n (iRow iCX12_reads_7 18 rfl) rfl rfl) ?_
                            refine s_step (g_bipush (iRow iCX12_reads_7 19 rfl) kb_29) ?_
                            refine s_cv (stA := []) (fun _ h => h_V (As := [_]) (iRow iCX12_reads_7 20 rfl) l12_224 iX12_puts ko_13 rfl rfl rfl rfl (t_X12_puts (d + 1) h) rfl (by omega) (by decide) (Nat.le_of_ble_eq_true rfl)) (fun M28 => ?_)
                            refine s_step (g_iincc (c := (-1)) (ls' := [some (vR 13 0), some (vI (x2 + (-1 : Int32))), some (vI x3), none, none, none]) (iRow iCX12_reads_7 21 rfl) rfl kc_m1 (by decide) rfl) ?_
                            refine s_lp (fun z => [some (vR 13 0), some (vI z), some (vI x3), none, none, none]) (fun _ => M28) (fun z => LM G (d + 2) YX12_reads Z 424 [some (vR 13 0), some (vI z), some (vI x3), none, none, none] [] M28) rfl rfl ?_ ?_
                            · rintro x29
                              show SW G (d + 2) YX12_reads Z 379 [some (vR 13 0), some (vI x29), some (vI x3), none, none, none] [] M28 (b_X12_reads_2c F M28 x29) _
                              unfold b_X12_reads_2c
                              refine s_step (g_iload_n (iRow iCX12_reads_7 22 rfl) rfl rfl) ?_
                              refine s_if (g_if_le (tgt := 424) (iRow iCX12_reads_7 23 rfl) (by decide)) (fun _ => ?_) (fun _ => ?_)
                              · exact s_end (fun h => h)
                              · refine s_step (g_aload_n (iRow iCX12_reads_8 0 rfl) rfl rfl) ?_
                                refine s_step (g_getR (iRow iCX12_reads_8 1 rfl) f12_68 ko_13 (r_13_30 _ _)) ?_
                                refine s_step (g_iload_n (iRow iCX12_reads_8 2 rfl) rfl rfl) ?_
                                refine s_gi (fun h => g_iald (iRow iCX12_reads_8 3 rfl) kn_82 ka_82 h) ?_
                                refine s_step (g_iconst (iRow iCX12_reads_8 4 rfl) kc_1) ?_
                                refine s_ifn (g_icmp_ne (tgt := 424) (iRow iCX12_reads_8 5 rfl) (by decide)) (fun _ => ?_) (fun _ => ?_)
                                · refine s_step (g_iincc (c := (-1)) (ls' := [some (vR 13 0), some (vI (x29 + (-1 : Int32))), some (vI x3), none, none, none]) (iRow iCX12_reads_8 6 rfl) rfl kc_m1 (by decide) rfl) ?_
                                  refine s_step (g_goto (tgt := 379) (iRow iCX12_reads_8 7 rfl) (by decide)) ?_
                                  exact s_end (fun h => h)
                                · exact s_end (fun h => h)
                            · rintro x30
                              show SW G (d + 2) YX12_reads Z 424 [some (vR 13 0), some (vI x30), some (vI x3), none, none, none] [] M28 _ _
                              try dsimp only
                              exact hj424 _
                        · refine s_step (g_keep [true, true, false, false, false, false] rfl) ?_
                          exact s_end (fun h => h)
                · refine s_nj 263 (fun z => [some (vR 13 0), some (vI x2), some (vI x3), none, none, none]) (fun z => []) (fun z => z) ?_ (fun j263 hj263 => ?_)
                  · rintro M15
                    show SW G (d + 2) YX12_reads Z 263 [some (vR 13 0), some (vI x2), some (vI x3), none, none, none] [] M15 _ _
                    try dsimp only
                    refine s_step (g_aload_n (iRow iCX12_reads_5 13 rfl) rfl rfl) ?_
                    refine s_step (g_getR (iRow iCX12_reads_5 14 rfl) f12_71 ko_13 (r_13_31 _ _)) ?_
                    refine s_step (g_iload_n (iRow iCX12_reads_5 15 rfl) rfl rfl) ?_
                    refine s_gi (fun h => g_zald (iRow iCX12_reads_5 16 rfl) kn_83 ka_83 h) ?_
                    refine s_ifn (g_if_ne (tgt := 304) (iRow iCX12_reads_5 17 rfl) (by decide)) (fun _ => ?_) (fun _ => ?_)
                    · refine s_step (g_aload_n (iRow iCX12_reads_5 18 rfl) rfl rfl) ?_
                      refine s_step (g_aload_n (iRow iCX12_reads_5 19 rfl) rfl rfl) ?_
                      refine s_step (g_bipush (iRow iCX12_reads_5 20 rfl) kb_60) ?_
                      refine s_cb (sf := fun b => vI (bI b) :: [vR 13 0]) (fun _ _ h => h_V (As := [_]) (iRow iCX12_reads_5 21 rfl) l12_217 iX12_isSign ko_13 rfl rfl rfl rfl (t_X12_isSign (d + 1) h) rfl (by omega) (by decide) (Nat.le_of_ble_eq_true rfl)) (fun b17 M16 => ?_)
                      refine s_bd (fun z => LM G (d + 2) YX12_reads Z 289 [some (vR 13 0), some (vI x2), none, none, none, none] [vI z, vR 13 0] M16) ?_ ?_
                      · refine s_ifeqb (g_if_eq (tgt := 287) (iRow iCX12_reads_5 22 rfl) (by decide)) (fun _ => ?_) (fun _ => ?_)
                        · refine s_step (g_bipush (iRow iCX12_reads_5 23 rfl) kb_24) ?_
                          refine s_step (g_goto (tgt := 289) (iRow iCX12_reads_6 0 rfl) (by decide)) ?_
                          refine s_step (g_keep [true, true, false, false, false, false] rfl) ?_
                          exact s_end (fun h => h)
                        · refine s_step (g_bipush (iRow iCX12_reads_6 1 rfl) kb_25) ?_
                          refine s_step (g_keep [true, true, false, false, false, false] rfl) ?_
                          exact s_end (fun h => h)
                      · rintro x18
                        show SW G (d + 2) YX12_reads Z 289 [some (vR 13 0), some (vI x2), none, none, none, none] [vI x18, vR 13 0] M16 _ _
                        try dsimp only
                        refine s_cv (stA := []) (fun _ h => h_V (As := [_]) (iRow iCX12_reads_6 2 rfl) l12_224 iX12_puts ko_13 rfl rfl rfl rfl (t_X12_puts (d + 1) h) rfl (by omega) (by decide) (Nat.le_of_ble_eq_true rfl)) (fun M19 => ?_)
                        refine s_step (g_aload_n (iRow iCX12_reads_6 3 rfl) rfl rfl) ?_
                        refine s_step (g_getR (iRow iCX12_reads_6 4 rfl) f12_71 ko_13 (r_13_31 _ _)) ?_
                        refine s_step (g_iload_n (iRow iCX12_reads_6 5 rfl) rfl rfl) ?_
                        refine s_step (g_iconst (iRow iCX12_reads_6 6 rfl) kc_1) ?_
                        refine s_gi (fun h => g_zast (iRow iCX12_reads_6 7 rfl) kn_83 ka_83 h) ?_
                        refine s_nmM (fun M20 => ?_)
                        refine s_step (g_iconst (iRow iCX12_reads_6 8 rfl) kc_1) ?_
                        refine s_step (g_istore_n (ls' := [some (vR 13 0), some (vI x2), some (vI (1 : Int32)), none, none, none]) (iRow iCX12_reads_6 9 rfl) rfl (by decide) rfl) ?_
                        refine s_step (g_goto (tgt := 424) (iRow iCX12_reads_6 10 rfl) (by decide)) ?_
                        exact hj424 _
                    · exact hj304 _
                  · refine s_ifneb (g_if_ne (tgt := 263) (iRow iCX12_reads_5 8 rfl) (by decide)) (fun _ => ?_) (fun _ => ?_)
                    · exact hj263 _
                    · refine s_step (g_aload_n (iRow iCX12_reads_5 9 rfl) rfl rfl) ?_
                      refine s_step (g_bipush (iRow iCX12_reads_5 10 rfl) kb_61) ?_
                      refine s_cb (sf := fun b => vI (bI b) :: []) (fun _ _ h => h_V (As := [_]) (iRow iCX12_reads_5 11 rfl) l12_217 iX12_isSign ko_13 rfl rfl rfl rfl (t_X12_isSign (d + 1) h) rfl (by omega) (by decide) (Nat.le_of_ble_eq_true rfl)) (fun b14 M13 => ?_)
                      refine s_ifeqb (g_if_eq (tgt := 304) (iRow iCX12_reads_5 12 rfl) (by decide)) (fun _ => ?_) (fun _ => ?_)
                      · exact hj263 _
                      · exact hj304 _
    · refine s_step (g_aload_n (iRow iCX12_reads_0 11 rfl) rfl rfl) ?_
      refine s_cl (sf := fun x => vI x :: []) (fun _ _ h => h_V (As := []) (iRow iCX12_reads_0 12 rfl) l12_207 iX12_fact ko_13 rfl rfl rfl rfl (t_X12_fact (d + 1) h) rfl (by omega) (by decide) (Nat.le_of_ble_eq_true rfl)) (fun x50 M49 => ?_)
      refine s_step (g_istore_n (ls' := [some (vR 13 0), some (vI x2), some (vI x3), some (vI x50), none, none]) (iRow iCX12_reads_0 13 rfl) rfl (by decide) rfl) ?_
      refine s_step (g_aload_n (iRow iCX12_reads_0 14 rfl) rfl rfl) ?_
      refine s_step (g_ldc2 (iRow iCX12_reads_0 15 rfl) k12_211) ?_
      refine s_cb (sf := fun b => vI (bI b) :: []) (fun _ _ h => h_V (As := [_]) (iRow iCX12_reads_0 16 rfl) l12_213 iX12_isWord ko_13 rfl rfl rfl rfl (t_X12_isWord (d + 1) h) rfl (by omega) (by decide) (Nat.le_of_ble_eq_true rfl)) (fun b52 M51 => ?_)
      refine s_step (g_istore (ls' := [some (vR 13 0), some (vI x2), some (vI x3), some (vI x50), some (vI (bI b52)), none]) (iRow iCX12_reads_0 17 rfl) (by decide) rfl) ?_
      refine s_step (g_aload_n (iRow iCX12_reads_0 18 rfl) rfl rfl) ?_
      refine s_step (g_bipush (iRow iCX12_reads_0 19 rfl) kb_40) ?_
      refine s_cb (sf := fun b => vI (bI b) :: []) (fun _ _ h => h_V (As := [_]) (iRow iCX12_reads_0 20 rfl) l12_217 iX12_isSign ko_13 rfl rfl rfl rfl (t_X12_isSign (d + 1) h) rfl (by omega) (by decide) (Nat.le_of_ble_eq_true rfl)) (fun b54 M53 => ?_)
      refine s_step (g_istore (ls' := [some (vR 13 0), some (vI x2), some (vI x3), some (vI x50), some (vI (bI b52)), some (vI (bI b54))]) (iRow iCX12_reads_0 21 rfl) (by decide) rfl) ?_
      refine s_step (g_iload_n (iRow iCX12_reads_0 22 rfl) rfl rfl) ?_
      refine s_nj 65 (fun z => [some (vR 13 0), some (vI x2), some (vI x3), some (vI x50), some (vI (bI b52)), some (vI (bI b54))]) (fun z => []) (fun z => M53) ?_ (fun j65 hj65 => ?_)
      · intro _
        show SW G (d + 2) YX12_reads Z 65 [some (vR 13 0), some (vI x2), some (vI x3), some (vI x50), some (vI (bI b52)), some (vI (bI b54))] [] M53 _ _
        try dsimp only
        refine s_step (g_iload_n (iRow iCX12_reads_1 12 rfl) rfl rfl) ?_
        refine s_step (g_iconst (iRow iCX12_reads_1 13 rfl) kc_5) ?_
        refine s_ifn (g_icmp_ne (tgt := 76) (iRow iCX12_reads_1 14 rfl) (by decide)) (fun _ => ?_) (fun _ => ?_)
        · refine s_step (g_keep [true, false, false, false, false, false] rfl) ?_
          exact s_end (fun h => h)
        · refine s_step (g_iload (iRow iCX12_reads_1 19 rfl) rfl) ?_
          refine s_bd (fun z => LM G (d + 2) YX12_reads Z 172 [some (vR 13 0), some (vI (z.1)), some (vI (z.2.1)), none, none, none] [] z.2.2) ?_ ?_
          · refine s_nj 86 (fun z => [some (vR 13 0), some (vI x2), some (vI x3), none, some (vI (bI b52)), none]) (fun z => []) (fun z => M53) ?_ (fun j86 hj86 => ?_)
            · intro _
              show SW G (d + 2) YX12_reads Z 86 [some (vR 13 0), some (vI x2), some (vI x3), none, some (vI (bI b52)), none] [] M53 _ _
              try dsimp only
              refine s_step (g_aload_n (iRow iCX12_reads_1 23 rfl) rfl rfl) ?_
              refine s_step (g_iload (iRow iCX12_reads_2 0 rfl) rfl) ?_
              refine s_bd (fun z => LM G (d + 2) YX12_reads Z 99 [some (vR 13 0), some (vI x2), some (vI x3), none, some (vI (bI b52)), none] [vI z, vR 13 0] M53) ?_ ?_
              · refine s_ifeqb (g_if_eq (tgt := 97) (iRow iCX12_reads_2 1 rfl) (by decide)) (fun _ => ?_) (fun _ => ?_)
                · refine s_step (g_bipush (iRow iCX12_reads_2 2 rfl) kb_30) ?_
                  refine s_step (g_goto (tgt := 99) (iRow iCX12_reads_2 3 rfl) (by decide)) ?_
                  exact s_end (fun h => h)
                · refine s_step (g_bipush (iRow iCX12_reads_2 4 rfl) kb_28) ?_
                  exact s_end (fun h => h)
              · rintro x59
                show SW G (d + 2) YX12_reads Z 99 [some (vR 13 0), some (vI x2), some (vI x3), none, some (vI (bI b52)), none] [vI x59, vR 13 0] M53 _ _
                try dsimp only
                refine s_cv (stA := []) (fun _ h => h_V (As := [_]) (iRow iCX12_reads_2 5 rfl) l12_224 iX12_puts ko_13 rfl rfl rfl rfl (t_X12_puts (d + 1) h) rfl (by omega) (by decide) (Nat.le_of_ble_eq_true rfl)) (fun M60 => ?_)
                refine s_step (g_iincc (c := 1) (ls' := [some (vR 13 0), some (vI (x2 + (1 : Int32))), some (vI x3), none, some (vI (bI b52)), none]) (iRow iCX12_reads_2 6 rfl) rfl kc_1 (by decide) rfl) ?_
                refine s_step (g_aload_n (iRow iCX12_reads_2 7 rfl) rfl rfl) ?_
                refine s_step (g_getR (iRow iCX12_reads_2 8 rfl) f12_68 ko_13 (r_13_30 _ _)) ?_
                refine s_step (g_iload_n (iRow iCX12_reads_2 9 rfl) rfl rfl) ?_
                refine s_step (g_iload (iRow iCX12_reads_2 10 rfl) rfl) ?_
                refine s_bd (fun z => LM G (d + 2) YX12_reads Z 120 [some (vR 13 0), some (vI (x2 + (1 : Int32))), some (vI x3), none, none, none] [vI z, vI (x2 + (1 : Int32)), vR 82 0] M60) ?_ ?_
                · refine s_ifeqb (g_if_eq (tgt := 119) (iRow iCX12_reads_2 11 rfl) (by decide)) (fun _ => ?_) (fun _ => ?_)
                  · refine s_step (g_iconst (iRow iCX12_reads_2 12 rfl) kc_1) ?_
                    refine s_step (g_goto (tgt := 120) (iRow iCX12_reads_2 13 rfl) (by decide)) ?_
                    refine s_step (g_keep [true, true, true, false, false, false] rfl) ?_
                    exact s_end (fun h => h)
                  · refine s_step (g_iconst (iRow iCX12_reads_2 14 rfl) kc_2) ?_
                    refine s_step (g_keep [true, true, true, false, false, false] rfl) ?_
                    exact s_end (fun h => h)
                · rintro x61
                  show SW G (d + 2) YX12_reads Z 120 [some (vR 13 0), some (vI (x2 + (1 : Int32))), some (vI x3), none, none, none] [vI x61, vI (x2 + (1 : Int32)), vR 82 0] M60 _ _
                  try dsimp only
                  refine s_gi (fun h => g_iast (iRow iCX12_reads_2 15 rfl) kn_82 ka_82 h) ?_
                  refine s_nmM (fun M62 => ?_)
                  refine s_step (g_aload_n (iRow iCX12_reads_2 16 rfl) rfl rfl) ?_
                  refine s_step (g_getR (iRow iCX12_reads_2 17 rfl) f12_71 ko_13 (r_13_31 _ _)) ?_
                  refine s_step (g_iload_n (iRow iCX12_reads_2 18 rfl) rfl rfl) ?_
                  refine s_step (g_iconst (iRow iCX12_reads_2 19 rfl) kc_0) ?_
                  refine s_gi (fun h => g_zast (iRow iCX12_reads_2 20 rfl) kn_83 ka_83 h) ?_
                  refine s_nmM (fun M63 => ?_)
                  refine s_step (g_goto (tgt := 172) (iRow iCX12_reads_2 21 rfl) (by decide)) ?_
                  exact s_end (fun h => h)
            · refine s_ifneb (g_if_ne (tgt := 86) (iRow iCX12_reads_1 20 rfl) (by decide)) (fun _ => ?_) (fun _ => ?_)
              · refine s_step (g_keep [true, true, true, false, true, false] rfl) ?_
                exact hj86 _
              · refine s_step (g_iload (iRow iCX12_reads_1 21 rfl) rfl) ?_
                refine s_ifeqb (g_if_eq (tgt := 131) (iRow iCX12_reads_1 22 rfl) (by decide)) (fun _ => ?_) (fun _ => ?_)
                · refine s_step (g_keep [true, true, true, false, true, false] rfl) ?_
                  exact hj86 _
                · refine s_step (g_aload_n (iRow iCX12_reads_2 22 rfl) rfl rfl) ?_
                  refine s_step (g_iload_n (iRow iCX12_reads_2 23 rfl) rfl rfl) ?_
                  refine s_bd (fun z => LM G (d + 2) YX12_reads Z 147 [some (vR 13 0), some (vI x2), none, none, none, none] [vI z, vR 13 0] M53) ?_ ?_
                  · refine s_if (g_if_le (tgt := 140) (iRow iCX12_reads_3 0 rfl) (by decide)) (fun _ => ?_) (fun _ => ?_)
                    · refine s_step (g_bipush (iRow iCX12_reads_3 3 rfl) kb_100) ?_
                      refine s_step (g_aload_n (iRow iCX12_reads_3 4 rfl) rfl rfl) ?_
                      refine s_step (g_getI (iRow iCX12_reads_3 5 rfl) f12_179 ko_13) ?_
                      refine s_step (g_iadd (iRow iCX12_reads_3 6 rfl)) ?_
                      refine s_step (g_keep [true, true, false, false, false, false] rfl) ?_
                      exact s_end (fun h => h)
                    · refine s_step (g_iload_n (iRow iCX12_reads_3 1 rfl) rfl rfl) ?_
                      refine s_step (g_goto (tgt := 147) (iRow iCX12_reads_3 2 rfl) (by decide)) ?_
                      refine s_step (g_keep [true, true, false, false, false, false] rfl) ?_
                      exact s_end (fun h => h)
                  · rintro x55
                    show SW G (d + 2) YX12_reads Z 147 [some (vR 13 0), some (vI x2), none, none, none, none] [vI x55, vR 13 0] M53 _ _
                    try dsimp only
                    refine s_cv (stA := []) (fun _ h => h_V (As := [_]) (iRow iCX12_reads_3 7 rfl) l12_224 iX12_puts ko_13 rfl rfl rfl rfl (t_X12_puts (d + 1) h) rfl (by omega) (by decide) (Nat.le_of_ble_eq_true rfl)) (fun M56 => ?_)
                    refine s_step (g_iconst (iRow iCX12_reads_3 8 rfl) kc_0) ?_
                    refine s_step (g_istore_n (ls' := [some (vR 13 0), some (vI x2), some (vI (0 : Int32)), none, none, none]) (iRow iCX12_reads_3 9 rfl) rfl (by decide) rfl) ?_
                    refine s_lp (fun z => [some (vR 13 0), some (vI z), some (vI (0 : Int32)), none, none, none]) (fun _ => M56) (fun z => LM G (d + 2) YX12_reads Z 172 [some (vR 13 0), some (vI z), some (vI (0 : Int32)), none, none, none] [] M56) rfl rfl ?_ ?_
                    · rintro x57
                      show SW G (d + 2) YX12_reads Z 152 [some (vR 13 0), some (vI x57), some (vI (0 : Int32)), none, none, none] [] M56 (b_X12_reads_3c F M56 x57) _
                      unfold b_X12_reads_3c
                      refine s_step (g_iload_n (iRow iCX12_reads_3 10 rfl) rfl rfl) ?_
                      refine s_if (g_if_le (tgt := 172) (iRow iCX12_reads_3 11 rfl) (by decide)) (fun _ => ?_) (fun _ => ?_)
                      · exact s_end (fun h => h)
                      · refine s_step (g_aload_n (iRow iCX12_reads_3 12 rfl) rfl rfl) ?_
                        refine s_step (g_getR (iRow iCX12_reads_3 13 rfl) f12_68 ko_13 (r_13_30 _ _)) ?_
                        refine s_step (g_iload_n (iRow iCX12_reads_3 14 rfl) rfl rfl) ?_
                        refine s_gi (fun h => g_iald (iRow iCX12_reads_3 15 rfl) kn_82 ka_82 h) ?_
                        refine s_step (g_iconst (iRow iCX12_reads_3 16 rfl) kc_1) ?_
                        refine s_ifn (g_icmp_ne (tgt := 172) (iRow iCX12_reads_3 17 rfl) (by decide)) (fun _ => ?_) (fun _ => ?_)
                        · refine s_step (g_iincc (c := (-1)) (ls' := [some (vR 13 0), some (vI (x57 + (-1 : Int32))), some (vI (0 : Int32)), none, none, none]) (iRow iCX12_reads_3 18 rfl) rfl kc_m1 (by decide) rfl) ?_
                          refine s_step (g_goto (tgt := 152) (iRow iCX12_reads_3 19 rfl) (by decide)) ?_
                          exact s_end (fun h => h)
                        · exact s_end (fun h => h)
                    · rintro x58
                      show SW G (d + 2) YX12_reads Z 172 [some (vR 13 0), some (vI x58), some (vI (0 : Int32)), none, none, none] [] M56 _ _
                      try dsimp only
                      exact s_end (fun h => h)
          · rintro ⟨x64, x65, M66⟩
            show SW G (d + 2) YX12_reads Z 172 [some (vR 13 0), some (vI x64), some (vI x65), none, none, none] [] M66 _ _
            try dsimp only
            refine s_step (g_aload_n (iRow iCX12_reads_3 20 rfl) rfl rfl) ?_
            refine s_cv (stA := []) (fun _ h => h_V (As := []) (iRow iCX12_reads_3 21 rfl) l12_227 iX12_nextToken ko_13 rfl rfl rfl rfl (t_X12_nextToken (d + 0) h) rfl (by omega) (by decide) (Nat.le_of_ble_eq_true rfl)) (fun M67 => ?_)
            refine s_step (g_goto (tgt := 11) (iRow iCX12_reads_3 22 rfl) (by decide)) ?_
            exact s_end (fun h => h)
      · refine s_ifn (g_if_ne (tgt := 65) (iRow iCX12_reads_0 23 rfl) (by decide)) (fun _ => ?_) (fun _ => ?_)
        · refine s_step (g_iload (iRow iCX12_reads_1 0 rfl) rfl) ?_
          refine s_ifneb (g_if_ne (tgt := 65) (iRow iCX12_reads_1 1 rfl) (by decide)) (fun _ => ?_) (fun _ => ?_)
          · exact hj65 _
          · refine s_step (g_iload (iRow iCX12_reads_1 2 rfl) rfl) ?_
            refine s_ifneb (g_if_ne (tgt := 65) (iRow iCX12_reads_1 3 rfl) (by decide)) (fun _ => ?_) (fun _ => ?_)
            · exact hj65 _
            · refine s_step (g_aload_n (iRow iCX12_reads_1 4 rfl) rfl rfl) ?_
              refine s_step (g_getI (iRow iCX12_reads_1 5 rfl) f12_182 ko_13) ?_
              refine s_step (g_iconst (iRow iCX12_reads_1 6 rfl) kc_2) ?_
              refine s_if (g_icmp_eq (tgt := 65) (iRow iCX12_reads_1 7 rfl) (by decide)) (fun _ => ?_) (fun _ => ?_)
              · exact hj65 _
              · refine s_step (g_keep [true, false, false, false, false, false] rfl) ?_
                exact s_end (fun h => h)
        · exact hj65 _
  · intro z
    rcases z with z | z
    · generalize z = M68
      show SW G (d + 2) YX12_reads Z 59 [some (vR 13 0), none, none, none, none, none] [] M68 _ _
      try dsimp only [Sum.elim]
      refine s_step (g_aload_n (iRow iCX12_reads_1 8 rfl) rfl rfl) ?_
      refine s_step (g_iconst (iRow iCX12_reads_1 9 rfl) kc_1) ?_
      refine s_cb (sf := fun b => vI (bI b) :: []) (fun _ _ h => h_V (As := [_]) (iRow iCX12_reads_1 10 rfl) l12_221 iX12_fails ko_13 rfl rfl rfl rfl (t_X12_fails (d + 1) h) rfl (by omega) (by decide) (Nat.le_of_ble_eq_true rfl)) (fun b70 M69 => ?_)
      exact s_retz (iRow iCX12_reads_1 11 rfl) rfl rfl
    · rcases z with z | z
      · generalize z = M71
        show SW G (d + 2) YX12_reads Z 70 [some (vR 13 0), none, none, none, none, none] [] M71 _ _
        try dsimp only [Sum.elim]
        refine s_step (g_aload_n (iRow iCX12_reads_1 15 rfl) rfl rfl) ?_
        refine s_step (g_iconst (iRow iCX12_reads_1 16 rfl) kc_5) ?_
        refine s_cb (sf := fun b => vI (bI b) :: []) (fun _ _ h => h_V (As := [_]) (iRow iCX12_reads_1 17 rfl) l12_221 iX12_fails ko_13 rfl rfl rfl rfl (t_X12_fails (d + 1) h) rfl (by omega) (by decide) (Nat.le_of_ble_eq_true rfl)) (fun b73 M72 => ?_)
        exact s_retz (iRow iCX12_reads_1 18 rfl) rfl rfl
      · obtain ⟨x74, M75⟩ := z
        show SW G (d + 2) YX12_reads Z 399 [some (vR 13 0), some (vI x74), none, none, none, none] [] M75 _ _
        try dsimp only [Sum.elim]
        refine s_step (g_iload_n (iRow iCX12_reads_8 8 rfl) rfl rfl) ?_
        refine s_nj 418 (fun z => [some (vR 13 0), none, none, none, none, none]) (fun z => []) (fun z => z) ?_ (fun j418 hj418 => ?_)
        · rintro M79
          show SW G (d + 2) YX12_reads Z 418 [some (vR 13 0), none, none, none, none, none] [] M79 _ _
          try dsimp only
          refine s_step (g_aload_n (iRow iCX12_reads_8 18 rfl) rfl rfl) ?_
          refine s_step (g_iconst (iRow iCX12_reads_8 19 rfl) kc_1) ?_
          refine s_cb (sf := fun b => vI (bI b) :: []) (fun _ _ h => h_V (As := [_]) (iRow iCX12_reads_8 20 rfl) l12_221 iX12_fails ko_13 rfl rfl rfl rfl (t_X12_fails (d + 1) h) rfl (by omega) (by decide) (Nat.le_of_ble_eq_true rfl)) (fun b81 M80 => ?_)
          exact s_retz (iRow iCX12_reads_8 21 rfl) rfl rfl
        · refine s_ifn (g_if_ne (tgt := 418) (iRow iCX12_reads_8 9 rfl) (by decide)) (fun _ => ?_) (fun _ => ?_)
          · refine s_step (g_aload_n (iRow iCX12_reads_8 10 rfl) rfl rfl) ?_
            refine s_step (g_bipush (iRow iCX12_reads_8 11 rfl) kb_59) ?_
            refine s_cb (sf := fun b => vI (bI b) :: []) (fun _ _ h => h_V (As := [_]) (iRow iCX12_reads_8 12 rfl) l12_217 iX12_isSign ko_13 rfl rfl rfl rfl (t_X12_isSign (d + 1) h) rfl (by omega) (by decide) (Nat.le_of_ble_eq_true rfl)) (fun b77 M76 => ?_)
            refine s_ifeqb (g_if_eq (tgt := 418) (iRow iCX12_reads_8 13 rfl) (by decide)) (fun _ => ?_) (fun _ => ?_)
            · refine s_step (g_aload_n (iRow iCX12_reads_8 14 rfl) rfl rfl) ?_
              refine s_cv (stA := []) (fun _ h => h_V (As := []) (iRow iCX12_reads_8 15 rfl) l12_227 iX12_nextToken ko_13 rfl rfl rfl rfl (t_X12_nextToken (d + 0) h) rfl (by omega) (by decide) (Nat.le_of_ble_eq_true rfl)) (fun M78 => ?_)
              refine s_step (g_iconst (iRow iCX12_reads_8 16 rfl) kc_1) ?_
              exact s_retz (b := true) (iRow iCX12_reads_8 17 rfl) rfl rfl
            · refine s_step (g_keep [true, false, false, false, false, false] rfl) ?_
              exact hj418 _
          · refine s_step (g_keep [true, false, false, false, false, false] rfl) ?_
            exact hj418 _
abbrev YX12_opens : mY := (RX12, "opens", cX12_opens, 2, none, none)
set_option maxHeartbeats 400000 in
set_option maxRecDepth 20000 in
theorem t_X12_opens {G : mg} {F : Nat} {a1 : Int32} {M : mm} {M' : mm} (d : Nat) (h : m_X12_opens F a1 M = some M') : CM G yX12_opens cX12_opens 2 none (d + 0) [vR 13 0, vI a1] M none M' := by
  refine ct_v (ls := [some (vR 13 0), some (vI a1)]) rfl rfl (Nat.le_of_ble_eq_true rfl) (fun Z => ?_) h
  show SW G (d + 0) YX12_opens Z 0 [some (vR 13 0), some (vI a1)] [] M _ _
  unfold m_X12_opens
  refine s_step (g_aload_n (iRow iCX12_opens_0 0 rfl) rfl rfl) ?_
  refine s_step (g_getR (iRow iCX12_opens_0 1 rfl) f12_78 ko_13 (r_13_33 _ _)) ?_
  refine s_step (g_iload_n (iRow iCX12_opens_0 2 rfl) rfl rfl) ?_
  refine s_step (g_iconst (iRow iCX12_opens_0 3 rfl) kc_0) ?_
  refine s_gi (fun h => g_iast (iRow iCX12_opens_0 4 rfl) kn_85 ka_85 h) ?_
  refine s_nmM (fun M1 => ?_)
  refine s_step (g_aload_n (iRow iCX12_opens_0 5 rfl) rfl rfl) ?_
  refine s_step (g_getR (iRow iCX12_opens_0 6 rfl) f12_84 ko_13 (r_13_35 _ _)) ?_
  refine s_step (g_iload_n (iRow iCX12_opens_0 7 rfl) rfl rfl) ?_
  refine s_step (g_iconst (iRow iCX12_opens_0 8 rfl) kc_0) ?_
  refine s_gi (fun h => g_iast (iRow iCX12_opens_0 9 rfl) kn_87 ka_87 h) ?_
  refine s_nmM (fun M2 => ?_)
  refine s_step (g_aload_n (iRow iCX12_opens_0 10 rfl) rfl rfl) ?_
  refine s_step (g_getR (iRow iCX12_opens_0 11 rfl) f12_87 ko_13 (r_13_36 _ _)) ?_
  refine s_step (g_iload_n (iRow iCX12_opens_0 12 rfl) rfl rfl) ?_
  refine s_step (g_iconst (iRow iCX12_opens_0 13 rfl) kc_0) ?_
  refine s_gi (fun h => g_iast (iRow iCX12_opens_0 14 rfl) kn_88 ka_88 h) ?_
  refine s_nmM (fun M3 => ?_)
  refine s_step (g_aload_n (iRow iCX12_opens_0 15 rfl) rfl rfl) ?_
  refine s_step (g_getR (iRow iCX12_opens_0 16 rfl) f12_90 ko_13 (r_13_37 _ _)) ?_
  refine s_step (g_iload_n (iRow iCX12_opens_0 17 rfl) rfl rfl) ?_
  refine s_step (g_bipush (iRow iCX12_opens_0 18 rfl) kb_20) ?_
  refine s_gi (fun h => g_iast (iRow iCX12_opens_0 19 rfl) kn_89 ka_89 h) ?_
  refine s_nmM (fun M4 => ?_)
  refine s_step (g_aload_n (iRow iCX12_opens_0 20 rfl) rfl rfl) ?_
  refine s_step (g_getR (iRow iCX12_opens_0 21 rfl) f12_96 ko_13 (r_13_39 _ _)) ?_
  refine s_step (g_iload_n (iRow iCX12_opens_0 22 rfl) rfl rfl) ?_
  refine s_step (g_iconst (iRow iCX12_opens_0 23 rfl) kc_0) ?_
  refine s_gi (fun h => g_iast (iRow iCX12_opens_1 0 rfl) kn_91 ka_91 h) ?_
  refine s_nmM (fun M5 => ?_)
  exact s_retv (iRow iCX12_opens_1 1 rfl) rfl
abbrev YX12_sums : mY := (RX12, "sums", cX12_sums, 2, none, none)
set_option maxHeartbeats 400000 in
set_option maxRecDepth 20000 in
theorem t_X12_sums {G : mg} {F : Nat} {a1 : Int32} {M : mm} {M' : mm} (d : Nat) (h : m_X12_sums F a1 M = some M') : CM G yX12_sums cX12_sums 2 none (d + 0) [vR 13 0, vI a1] M none M' := by
  refine ct_v (ls := [some (vR 13 0), some (vI a1)]) rfl rfl (Nat.le_of_ble_eq_true rfl) (fun Z => ?_) h
  show SW G (d + 0) YX12_sums Z 0 [some (vR 13 0), some (vI a1)] [] M _ _
  unfold m_X12_sums
  refine s_step (g_aload_n (iRow iCX12_sums_0 0 rfl) rfl rfl) ?_
  refine s_step (g_getR (iRow iCX12_sums_0 1 rfl) f12_87 ko_13 (r_13_36 _ _)) ?_
  refine s_step (g_iload_n (iRow iCX12_sums_0 2 rfl) rfl rfl) ?_
  refine s_step (g_aload_n (iRow iCX12_sums_0 3 rfl) rfl rfl) ?_
  refine s_step (g_getR (iRow iCX12_sums_0 4 rfl) f12_90 ko_13 (r_13_37 _ _)) ?_
  refine s_step (g_iload_n (iRow iCX12_sums_0 5 rfl) rfl rfl) ?_
  refine s_gi (fun h => g_iald (iRow iCX12_sums_0 6 rfl) kn_89 ka_89 h) ?_
  refine s_step (g_bipush (iRow iCX12_sums_0 7 rfl) kb_21) ?_
  refine s_bd (fun z => LM G (d + 0) YX12_sums Z 45 [some (vR 13 0), some (vI a1)] [vI z, vI a1, vR 88 0] M) ?_ ?_
  · refine s_ifn (g_icmp_ne (tgt := 32) (iRow iCX12_sums_0 8 rfl) (by decide)) (fun _ => ?_) (fun _ => ?_)
    · refine s_step (g_aload_n (iRow iCX12_sums_0 9 rfl) rfl rfl) ?_
      refine s_step (g_getR (iRow iCX12_sums_0 10 rfl) f12_87 ko_13 (r_13_36 _ _)) ?_
      refine s_step (g_iload_n (iRow iCX12_sums_0 11 rfl) rfl rfl) ?_
      refine s_gi (fun h => g_iald (iRow iCX12_sums_0 12 rfl) kn_88 ka_88 h) ?_
      refine s_step (g_aload_n (iRow iCX12_sums_0 13 rfl) rfl rfl) ?_
      refine s_step (g_getR (iRow iCX12_sums_0 14 rfl) f12_93 ko_13 (r_13_38 _ _)) ?_
      refine s_step (g_iload_n (iRow iCX12_sums_0 15 rfl) rfl rfl) ?_
      refine s_gi (fun h => g_iald (iRow iCX12_sums_0 16 rfl) kn_90 ka_90 h) ?_
      refine s_step (g_isub (iRow iCX12_sums_0 17 rfl)) ?_
      refine s_step (g_goto (tgt := 45) (iRow iCX12_sums_0 18 rfl) (by decide)) ?_
      exact s_end (fun h => h)
    · refine s_step (g_aload_n (iRow iCX12_sums_0 19 rfl) rfl rfl) ?_
      refine s_step (g_getR (iRow iCX12_sums_0 20 rfl) f12_87 ko_13 (r_13_36 _ _)) ?_
      refine s_step (g_iload_n (iRow iCX12_sums_0 21 rfl) rfl rfl) ?_
      refine s_gi (fun h => g_iald (iRow iCX12_sums_0 22 rfl) kn_88 ka_88 h) ?_
      refine s_step (g_aload_n (iRow iCX12_sums_0 23 rfl) rfl rfl) ?_
      refine s_step (g_getR (iRow iCX12_sums_1 0 rfl) f12_93 ko_13 (r_13_38 _ _)) ?_
      refine s_step (g_iload_n (iRow iCX12_sums_1 1 rfl) rfl rfl) ?_
      refine s_gi (fun h => g_iald (iRow iCX12_sums_1 2 rfl) kn_90 ka_90 h) ?_
      refine s_step (g_iadd (iRow iCX12_sums_1 3 rfl)) ?_
      exact s_end (fun h => h)
  · rintro x1
    show SW G (d + 0) YX12_sums Z 45 [some (vR 13 0), some (vI a1)] [vI x1, vI a1, vR 88 0] M _ _
    try dsimp only
    refine s_gi (fun h => g_iast (iRow iCX12_sums_1 4 rfl) kn_88 ka_88 h) ?_
    refine s_nmM (fun M2 => ?_)
    refine s_step (g_aload_n (iRow iCX12_sums_1 5 rfl) rfl rfl) ?_
    refine s_step (g_getR (iRow iCX12_sums_1 6 rfl) f12_96 ko_13 (r_13_39 _ _)) ?_
    refine s_step (g_iload_n (iRow iCX12_sums_1 7 rfl) rfl rfl) ?_
    refine s_step (g_iconst (iRow iCX12_sums_1 8 rfl) kc_0) ?_
    refine s_gi (fun h => g_iast (iRow iCX12_sums_1 9 rfl) kn_91 ka_91 h) ?_
    refine s_nmM (fun M3 => ?_)
    exact s_retv (iRow iCX12_sums_1 10 rfl) rfl
abbrev YX12_tests : mY := (RX12, "tests", cX12_tests, 3, none, none)
set_option maxHeartbeats 400000 in
set_option maxRecDepth 20000 in
theorem t_X12_tests {G : mg} {F : Nat} {a1 : Int32} {M : mm} {M' : mm} (d : Nat) (h : m_X12_tests F a1 M = some M') : CM G yX12_tests cX12_tests 3 none (d + 1) [vR 13 0, vI a1] M none M' := by
  refine ct_v (ls := [some (vR 13 0), some (vI a1), none]) rfl rfl (Nat.le_of_ble_eq_true rfl) (fun Z => ?_) h
  show SW G (d + 1) YX12_tests Z 0 [some (vR 13 0), some (vI a1), none] [] M _ _
  unfold m_X12_tests
  refine s_step (g_aload_n (iRow iCX12_tests_0 0 rfl) rfl rfl) ?_
  refine s_step (g_iload_n (iRow iCX12_tests_0 1 rfl) rfl rfl) ?_
  refine s_cv (stA := []) (fun _ h => h_V (As := [_]) (iRow iCX12_tests_0 2 rfl) l12_234 iX12_sums ko_13 rfl rfl rfl rfl (t_X12_sums (d + 0) h) rfl (by omega) (by decide) (Nat.le_of_ble_eq_true rfl)) (fun M1 => ?_)
  refine s_step (g_aload_n (iRow iCX12_tests_0 3 rfl) rfl rfl) ?_
  refine s_step (g_getR (iRow iCX12_tests_0 4 rfl) f12_87 ko_13 (r_13_36 _ _)) ?_
  refine s_step (g_iload_n (iRow iCX12_tests_0 5 rfl) rfl rfl) ?_
  refine s_gi (fun h => g_iald (iRow iCX12_tests_0 6 rfl) kn_88 ka_88 h) ?_
  refine s_nmI (fun x2 => ?_)
  refine s_step (g_istore_n (ls' := [some (vR 13 0), some (vI a1), some (vI x2)]) (iRow iCX12_tests_0 7 rfl) rfl (by decide) rfl) ?_
  refine s_step (g_aload_n (iRow iCX12_tests_0 8 rfl) rfl rfl) ?_
  refine s_step (g_getR (iRow iCX12_tests_0 9 rfl) f12_84 ko_13 (r_13_35 _ _)) ?_
  refine s_step (g_iload_n (iRow iCX12_tests_0 10 rfl) rfl rfl) ?_
  refine s_gi (fun h => g_iald (iRow iCX12_tests_0 11 rfl) kn_87 ka_87 h) ?_
  refine s_step (g_bipush (iRow iCX12_tests_0 12 rfl) kb_24) ?_
  refine s_bd (fun z => LM G (d + 1) YX12_tests Z 44 [some (vR 13 0), some (vI a1), some (vI z)] [] M1) ?_ ?_
  · refine s_ifn (g_icmp_ne (tgt := 44) (iRow iCX12_tests_0 13 rfl) (by decide)) (fun _ => ?_) (fun _ => ?_)
    · refine s_step (g_aload_n (iRow iCX12_tests_0 14 rfl) rfl rfl) ?_
      refine s_step (g_getR (iRow iCX12_tests_0 15 rfl) f12_81 ko_13 (r_13_34 _ _)) ?_
      refine s_step (g_iload_n (iRow iCX12_tests_0 16 rfl) rfl rfl) ?_
      refine s_gi (fun h => g_iald (iRow iCX12_tests_0 17 rfl) kn_86 ka_86 h) ?_
      refine s_step (g_aload_n (iRow iCX12_tests_0 18 rfl) rfl rfl) ?_
      refine s_step (g_getR (iRow iCX12_tests_0 19 rfl) f12_87 ko_13 (r_13_36 _ _)) ?_
      refine s_step (g_iload_n (iRow iCX12_tests_0 20 rfl) rfl rfl) ?_
      refine s_gi (fun h => g_iald (iRow iCX12_tests_0 21 rfl) kn_88 ka_88 h) ?_
      refine s_bd (fun z => LM G (d + 1) YX12_tests Z 43 [some (vR 13 0), some (vI a1), none] [vI z] M1) ?_ ?_
      · refine s_if (g_icmp_ge (tgt := 42) (iRow iCX12_tests_0 22 rfl) (by decide)) (fun _ => ?_) (fun _ => ?_)
        · refine s_step (g_iconst (iRow iCX12_tests_1 1 rfl) kc_0) ?_
          refine s_step (g_keep [true, true, false] rfl) ?_
          exact s_end (fun h => h)
        · refine s_step (g_iconst (iRow iCX12_tests_0 23 rfl) kc_1) ?_
          refine s_step (g_goto (tgt := 43) (iRow iCX12_tests_1 0 rfl) (by decide)) ?_
          refine s_step (g_keep [true, true, false] rfl) ?_
          exact s_end (fun h => h)
      · rintro x3
        show SW G (d + 1) YX12_tests Z 43 [some (vR 13 0), some (vI a1), none] [vI x3] M1 _ _
        try dsimp only
        refine s_step (g_istore_n (ls' := [some (vR 13 0), some (vI a1), some (vI x3)]) (iRow iCX12_tests_1 2 rfl) rfl (by decide) rfl) ?_
        exact s_end (fun h => h)
    · exact s_end (fun h => h)
  · rintro x4
    show SW G (d + 1) YX12_tests Z 44 [some (vR 13 0), some (vI a1), some (vI x4)] [] M1 _ _
    try dsimp only
    refine s_step (g_aload_n (iRow iCX12_tests_1 3 rfl) rfl rfl) ?_
    refine s_step (g_getR (iRow iCX12_tests_1 4 rfl) f12_84 ko_13 (r_13_35 _ _)) ?_
    refine s_step (g_iload_n (iRow iCX12_tests_1 5 rfl) rfl rfl) ?_
    refine s_gi (fun h => g_iald (iRow iCX12_tests_1 6 rfl) kn_87 ka_87 h) ?_
    refine s_step (g_bipush (iRow iCX12_tests_1 7 rfl) kb_25) ?_
    refine s_bd (fun z => LM G (d + 1) YX12_tests Z 76 [some (vR 13 0), some (vI a1), some (vI z)] [] M1) ?_ ?_
    · refine s_ifn (g_icmp_ne (tgt := 76) (iRow iCX12_tests_1 8 rfl) (by decide)) (fun _ => ?_) (fun _ => ?_)
      · refine s_step (g_aload_n (iRow iCX12_tests_1 9 rfl) rfl rfl) ?_
        refine s_step (g_getR (iRow iCX12_tests_1 10 rfl) f12_81 ko_13 (r_13_34 _ _)) ?_
        refine s_step (g_iload_n (iRow iCX12_tests_1 11 rfl) rfl rfl) ?_
        refine s_gi (fun h => g_iald (iRow iCX12_tests_1 12 rfl) kn_86 ka_86 h) ?_
        refine s_step (g_aload_n (iRow iCX12_tests_1 13 rfl) rfl rfl) ?_
        refine s_step (g_getR (iRow iCX12_tests_1 14 rfl) f12_87 ko_13 (r_13_36 _ _)) ?_
        refine s_step (g_iload_n (iRow iCX12_tests_1 15 rfl) rfl rfl) ?_
        refine s_gi (fun h => g_iald (iRow iCX12_tests_1 16 rfl) kn_88 ka_88 h) ?_
        refine s_bd (fun z => LM G (d + 1) YX12_tests Z 75 [some (vR 13 0), some (vI a1), none] [vI z] M1) ?_ ?_
        · refine s_ifn (g_icmp_ne (tgt := 74) (iRow iCX12_tests_1 17 rfl) (by decide)) (fun _ => ?_) (fun _ => ?_)
          · refine s_step (g_iconst (iRow iCX12_tests_1 18 rfl) kc_1) ?_
            refine s_step (g_goto (tgt := 75) (iRow iCX12_tests_1 19 rfl) (by decide)) ?_
            refine s_step (g_keep [true, true, false] rfl) ?_
            exact s_end (fun h => h)
          · refine s_step (g_iconst (iRow iCX12_tests_1 20 rfl) kc_0) ?_
            refine s_step (g_keep [true, true, false] rfl) ?_
            exact s_end (fun h => h)
        · rintro x5
          show SW G (d + 1) YX12_tests Z 75 [some (vR 13 0), some (vI a1), none] [vI x5] M1 _ _
          try dsimp only
          refine s_step (g_istore_n (ls' := [some (vR 13 0), some (vI a1), some (vI x5)]) (iRow iCX12_tests_1 21 rfl) rfl (by decide) rfl) ?_
          exact s_end (fun h => h)
      · exact s_end (fun h => h)
    · rintro x6
      show SW G (d + 1) YX12_tests Z 76 [some (vR 13 0), some (vI a1), some (vI x6)] [] M1 _ _
      try dsimp only
      refine s_step (g_aload_n (iRow iCX12_tests_1 22 rfl) rfl rfl) ?_
      refine s_step (g_getR (iRow iCX12_tests_1 23 rfl) f12_78 ko_13 (r_13_33 _ _)) ?_
      refine s_step (g_iload_n (iRow iCX12_tests_2 0 rfl) rfl rfl) ?_
      refine s_gi (fun h => g_iald (iRow iCX12_tests_2 1 rfl) kn_85 ka_85 h) ?_
      refine s_step (g_bipush (iRow iCX12_tests_2 2 rfl) kb_26) ?_
      refine s_bd (fun z => LM G (d + 1) YX12_tests Z 106 [some (vR 13 0), some (vI a1), some (vI z)] [] M1) ?_ ?_
      · refine s_ifn (g_icmp_ne (tgt := 106) (iRow iCX12_tests_2 3 rfl) (by decide)) (fun _ => ?_) (fun _ => ?_)
        · refine s_step (g_aload_n (iRow iCX12_tests_2 4 rfl) rfl rfl) ?_
          refine s_step (g_getR (iRow iCX12_tests_2 5 rfl) f12_75 ko_13 (r_13_32 _ _)) ?_
          refine s_step (g_iload_n (iRow iCX12_tests_2 6 rfl) rfl rfl) ?_
          refine s_gi (fun h => g_iald (iRow iCX12_tests_2 7 rfl) kn_84 ka_84 h) ?_
          refine s_bd (fun z => LM G (d + 1) YX12_tests Z 105 [some (vR 13 0), some (vI a1), none] [vI z] M1) ?_ ?_
          · refine s_nj 104 (fun z => [some (vR 13 0), some (vI a1), none]) (fun z => []) (fun z => M1) ?_ (fun j104 hj104 => ?_)
            · intro _
              show SW G (d + 1) YX12_tests Z 104 [some (vR 13 0), some (vI a1), none] [] M1 _ _
              try dsimp only
              refine s_step (g_iconst (iRow iCX12_tests_2 13 rfl) kc_0) ?_
              exact s_end (fun h => h)
            · refine s_if (g_if_eq (tgt := 104) (iRow iCX12_tests_2 8 rfl) (by decide)) (fun _ => ?_) (fun _ => ?_)
              · refine s_step (g_keep [true, true, false] rfl) ?_
                exact hj104 _
              · refine s_step (g_iload_n (iRow iCX12_tests_2 9 rfl) rfl rfl) ?_
                refine s_if (g_if_eq (tgt := 104) (iRow iCX12_tests_2 10 rfl) (by decide)) (fun _ => ?_) (fun _ => ?_)
                · refine s_step (g_keep [true, true, false] rfl) ?_
                  exact hj104 _
                · refine s_step (g_iconst (iRow iCX12_tests_2 11 rfl) kc_1) ?_
                  refine s_step (g_goto (tgt := 105) (iRow iCX12_tests_2 12 rfl) (by decide)) ?_
                  refine s_step (g_keep [true, true, false] rfl) ?_
                  exact s_end (fun h => h)
          · rintro x7
            show SW G (d + 1) YX12_tests Z 105 [some (vR 13 0), some (vI a1), none] [vI x7] M1 _ _
            try dsimp only
            refine s_step (g_istore_n (ls' := [some (vR 13 0), some (vI a1), some (vI x7)]) (iRow iCX12_tests_2 14 rfl) rfl (by decide) rfl) ?_
            exact s_end (fun h => h)
        · exact s_end (fun h => h)
      · rintro x8
        show SW G (d + 1) YX12_tests Z 106 [some (vR 13 0), some (vI a1), some (vI x8)] [] M1 _ _
        try dsimp only
        refine s_step (g_aload_n (iRow iCX12_tests_2 15 rfl) rfl rfl) ?_
        refine s_step (g_getR (iRow iCX12_tests_2 16 rfl) f12_78 ko_13 (r_13_33 _ _)) ?_
        refine s_step (g_iload_n (iRow iCX12_tests_2 17 rfl) rfl rfl) ?_
        refine s_gi (fun h => g_iald (iRow iCX12_tests_2 18 rfl) kn_85 ka_85 h) ?_
        refine s_step (g_bipush (iRow iCX12_tests_2 19 rfl) kb_27) ?_
        refine s_bd (fun z => LM G (d + 1) YX12_tests Z 136 [some (vR 13 0), some (vI a1), some (vI z)] [] M1) ?_ ?_
        · refine s_ifn (g_icmp_ne (tgt := 136) (iRow iCX12_tests_2 20 rfl) (by decide)) (fun _ => ?_) (fun _ => ?_)
          · refine s_step (g_aload_n (iRow iCX12_tests_2 21 rfl) rfl rfl) ?_
            refine s_step (g_getR (iRow iCX12_tests_2 22 rfl) f12_75 ko_13 (r_13_32 _ _)) ?_
            refine s_step (g_iload_n (iRow iCX12_tests_2 23 rfl) rfl rfl) ?_
            refine s_gi (fun h => g_iald (iRow iCX12_tests_3 0 rfl) kn_84 ka_84 h) ?_
            refine s_bd (fun z => LM G (d + 1) YX12_tests Z 135 [some (vR 13 0), some (vI a1), none] [vI z] M1) ?_ ?_
            · refine s_nj 130 (fun z => [some (vR 13 0), some (vI a1), none]) (fun z => []) (fun z => M1) ?_ (fun j130 hj130 => ?_)
              · intro _
                show SW G (d + 1) YX12_tests Z 130 [some (vR 13 0), some (vI a1), none] [] M1 _ _
                try dsimp only
                refine s_step (g_iconst (iRow iCX12_tests_3 4 rfl) kc_1) ?_
                refine s_step (g_goto (tgt := 135) (iRow iCX12_tests_3 5 rfl) (by decide)) ?_
                exact s_end (fun h => h)
              · refine s_ifn (g_if_ne (tgt := 130) (iRow iCX12_tests_3 1 rfl) (by decide)) (fun _ => ?_) (fun _ => ?_)
                · refine s_step (g_iload_n (iRow iCX12_tests_3 2 rfl) rfl rfl) ?_
                  refine s_if (g_if_eq (tgt := 134) (iRow iCX12_tests_3 3 rfl) (by decide)) (fun _ => ?_) (fun _ => ?_)
                  · refine s_step (g_iconst (iRow iCX12_tests_3 6 rfl) kc_0) ?_
                    refine s_step (g_keep [true, true, false] rfl) ?_
                    exact s_end (fun h => h)
                  · refine s_step (g_keep [true, true, false] rfl) ?_
                    exact hj130 _
                · refine s_step (g_keep [true, true, false] rfl) ?_
                  exact hj130 _
            · rintro x9
              show SW G (d + 1) YX12_tests Z 135 [some (vR 13 0), some (vI a1), none] [vI x9] M1 _ _
              try dsimp only
              refine s_step (g_istore_n (ls' := [some (vR 13 0), some (vI a1), some (vI x9)]) (iRow iCX12_tests_3 7 rfl) rfl (by decide) rfl) ?_
              exact s_end (fun h => h)
          · exact s_end (fun h => h)
        · rintro x10
          show SW G (d + 1) YX12_tests Z 136 [some (vR 13 0), some (vI a1), some (vI x10)] [] M1 _ _
          try dsimp only
          refine s_step (g_aload_n (iRow iCX12_tests_3 8 rfl) rfl rfl) ?_
          refine s_step (g_getR (iRow iCX12_tests_3 9 rfl) f12_75 ko_13 (r_13_32 _ _)) ?_
          refine s_step (g_iload_n (iRow iCX12_tests_3 10 rfl) rfl rfl) ?_
          refine s_step (g_iload_n (iRow iCX12_tests_3 11 rfl) rfl rfl) ?_
          refine s_gi (fun h => g_iast (iRow iCX12_tests_3 12 rfl) kn_84 ka_84 h) ?_
          refine s_nmM (fun M11 => ?_)
          refine s_step (g_aload_n (iRow iCX12_tests_3 13 rfl) rfl rfl) ?_
          refine s_step (g_getR (iRow iCX12_tests_3 14 rfl) f12_84 ko_13 (r_13_35 _ _)) ?_
          refine s_step (g_iload_n (iRow iCX12_tests_3 15 rfl) rfl rfl) ?_
          refine s_step (g_iconst (iRow iCX12_tests_3 16 rfl) kc_0) ?_
          refine s_gi (fun h => g_iast (iRow iCX12_tests_3 17 rfl) kn_87 ka_87 h) ?_
          refine s_nmM (fun M12 => ?_)
          refine s_step (g_aload_n (iRow iCX12_tests_3 18 rfl) rfl rfl) ?_
          refine s_step (g_getR (iRow iCX12_tests_3 19 rfl) f12_87 ko_13 (r_13_36 _ _)) ?_
          refine s_step (g_iload_n (iRow iCX12_tests_3 20 rfl) rfl rfl) ?_
          refine s_step (g_iconst (iRow iCX12_tests_3 21 rfl) kc_0) ?_
          refine s_gi (fun h => g_iast (iRow iCX12_tests_3 22 rfl) kn_88 ka_88 h) ?_
          refine s_nmM (fun M13 => ?_)
          refine s_step (g_aload_n (iRow iCX12_tests_3 23 rfl) rfl rfl) ?_
          refine s_step (g_getR (iRow iCX12_tests_4 0 rfl) f12_90 ko_13 (r_13_37 _ _)) ?_
          refine s_step (g_iload_n (iRow iCX12_tests_4 1 rfl) rfl rfl) ?_
          refine s_step (g_bipush (iRow iCX12_tests_4 2 rfl) kb_20) ?_
          refine s_gi (fun h => g_iast (iRow iCX12_tests_4 3 rfl) kn_89 ka_89 h) ?_
          refine s_nmM (fun M14 => ?_)
          exact s_retv (iRow iCX12_tests_4 4 rfl) rfl
