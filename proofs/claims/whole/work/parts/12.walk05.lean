abbrev YX10_endsClashes : mY := (RX10, "endsClashes", cX10_endsClashes, 4, (some .boolean), none)
set_option maxHeartbeats 400000 in
set_option maxRecDepth 20000 in
theorem t_X10_endsClashes {G : mg} {F : Nat} {a1 : Int32} {M : mm} {x : Bool} {M' : mm} (d : Nat) (h : m_X10_endsClashes F a1 M = some (x, M')) : CM G yX10_endsClashes cX10_endsClashes 4 (some .boolean) (d + 0) [vR 11 0, vI a1] M (some (vI (bI x))) M' := by
  refine ct_z (ls := [some (vR 11 0), some (vI a1), none, none]) rfl rfl (Nat.le_of_ble_eq_true rfl) (fun Z => ?_) h
  show SW G (d + 0) YX10_endsClashes Z 0 [some (vR 11 0), some (vI a1), none, none] [] M _ _
  unfold m_X10_endsClashes
  refine s_step (g_aload_n (iRow iCX10_endsClashes_0 0 rfl) rfl rfl) ?_
  refine s_step (g_getR (iRow iCX10_endsClashes_0 1 rfl) f10_12 ko_11 (r_11_2 _ _)) ?_
  refine s_step (g_getI (iRow iCX10_endsClashes_0 2 rfl) f10_69 ko_5) ?_
  refine s_step (g_iload_n (iRow iCX10_endsClashes_0 3 rfl) rfl rfl) ?_
  refine s_step (g_ior (iRow iCX10_endsClashes_0 4 rfl)) ?_
  refine s_step (g_iconst (iRow iCX10_endsClashes_0 5 rfl) kc_m1) ?_
  refine s_step (g_ixor (iRow iCX10_endsClashes_0 6 rfl)) ?_
  refine s_nmI (fun x1 => ?_)
  refine s_step (g_istore_n (ls' := [some (vR 11 0), some (vI a1), some (vI x1), none]) (iRow iCX10_endsClashes_0 7 rfl) rfl (by decide) rfl) ?_
  refine s_step (g_iconst (iRow iCX10_endsClashes_0 8 rfl) kc_0) ?_
  refine s_step (g_istore_n (ls' := [some (vR 11 0), some (vI a1), some (vI x1), some (vI (0 : Int32))]) (iRow iCX10_endsClashes_0 9 rfl) rfl (by decide) rfl) ?_
  refine s_step (g_keep [true, false, true, true] rfl) ?_
  refine s_lp (fun z => [some (vR 11 0), none, some (vI x1), some (vI z)]) (fun _ => M) (Sum.elim (fun z => LM G (d + 0) YX10_endsClashes Z 47 [none, none, none, none] [] M) (fun z => LM G (d + 0) YX10_endsClashes Z 55 [none, none, none, none] [] M)) rfl rfl ?_ ?_
  · rintro x2
    show SW G (d + 0) YX10_endsClashes Z 14 [some (vR 11 0), none, some (vI x1), some (vI x2)] [] M (b_X10_endsClashes_1c F x1 M x2) _
    unfold b_X10_endsClashes_1c
    refine s_step (g_iload_n (iRow iCX10_endsClashes_0 10 rfl) rfl rfl) ?_
    refine s_step (g_aload_n (iRow iCX10_endsClashes_0 11 rfl) rfl rfl) ?_
    refine s_step (g_getR (iRow iCX10_endsClashes_0 12 rfl) f10_41 ko_11 (r_11_1 _ _)) ?_
    refine s_step (g_getI (iRow iCX10_endsClashes_0 13 rfl) f10_61 ko_1) ?_
    refine s_if (g_icmp_ge (tgt := 55) (iRow iCX10_endsClashes_0 14 rfl) (by decide)) (fun _ => ?_) (fun _ => ?_)
    · refine s_step (g_keep [false, false, false, false] rfl) ?_
      exact s_end (fun h => h)
    · refine s_step (g_iload_n (iRow iCX10_endsClashes_0 15 rfl) rfl rfl) ?_
      refine s_step (g_iload_n (iRow iCX10_endsClashes_0 16 rfl) rfl rfl) ?_
      refine s_step (g_ishr (iRow iCX10_endsClashes_0 17 rfl)) ?_
      refine s_step (g_iconst (iRow iCX10_endsClashes_0 18 rfl) kc_1) ?_
      refine s_step (g_iand (iRow iCX10_endsClashes_0 19 rfl)) ?_
      refine s_nj 49 (fun z => [some (vR 11 0), none, some (vI x1), some (vI x2)]) (fun z => []) (fun z => M) ?_ (fun j49 hj49 => ?_)
      · intro _
        show SW G (d + 0) YX10_endsClashes Z 49 [some (vR 11 0), none, some (vI x1), some (vI x2)] [] M _ _
        try dsimp only
        refine s_step (g_iincc (c := 1) (ls' := [some (vR 11 0), none, some (vI x1), some (vI (x2 + (1 : Int32)))]) (iRow iCX10_endsClashes_1 7 rfl) rfl kc_1 (by decide) rfl) ?_
        refine s_step (g_goto (tgt := 14) (iRow iCX10_endsClashes_1 8 rfl) (by decide)) ?_
        exact s_end (fun h => h)
      · refine s_if (g_if_eq (tgt := 49) (iRow iCX10_endsClashes_0 20 rfl) (by decide)) (fun _ => ?_) (fun _ => ?_)
        · exact hj49 _
        · refine s_step (g_aload_n (iRow iCX10_endsClashes_0 21 rfl) rfl rfl) ?_
          refine s_step (g_getR (iRow iCX10_endsClashes_0 22 rfl) f10_41 ko_11 (r_11_1 _ _)) ?_
          refine s_step (g_getR (iRow iCX10_endsClashes_0 23 rfl) f10_100 ko_1 (r_1_11 _ _)) ?_
          refine s_step (g_iload_n (iRow iCX10_endsClashes_1 0 rfl) rfl rfl) ?_
          refine s_gi (fun h => g_iald (iRow iCX10_endsClashes_1 1 rfl) kn_29 ka_29 h) ?_
          refine s_step (g_iload_n (iRow iCX10_endsClashes_1 2 rfl) rfl rfl) ?_
          refine s_step (g_iand (iRow iCX10_endsClashes_1 3 rfl)) ?_
          refine s_if (g_if_eq (tgt := 49) (iRow iCX10_endsClashes_1 4 rfl) (by decide)) (fun _ => ?_) (fun _ => ?_)
          · exact hj49 _
          · refine s_step (g_keep [false, false, false, false] rfl) ?_
            exact s_end (fun h => h)
  · intro z
    rcases z with z | z
    · obtain ⟨⟩ := z
      show SW G (d + 0) YX10_endsClashes Z 47 [none, none, none, none] [] M _ _
      try dsimp only [Sum.elim]
      refine s_step (g_iconst (iRow iCX10_endsClashes_1 5 rfl) kc_0) ?_
      exact s_retz (b := false) (iRow iCX10_endsClashes_1 6 rfl) rfl rfl
    · obtain ⟨⟩ := z
      show SW G (d + 0) YX10_endsClashes Z 55 [none, none, none, none] [] M _ _
      try dsimp only [Sum.elim]
      refine s_step (g_iconst (iRow iCX10_endsClashes_1 9 rfl) kc_1) ?_
      exact s_retz (b := true) (iRow iCX10_endsClashes_1 10 rfl) rfl rfl
abbrev YX10_fewestToKeep : mY := (RX10, "fewestToKeep", cX10_fewestToKeep, 3, (some .int), none)
set_option maxHeartbeats 400000 in
set_option maxRecDepth 20000 in
theorem t_X10_fewestToKeep {G : mg} {F : Nat} {M : mm} {x : Int32} {M' : mm} (d : Nat) (h : m_X10_fewestToKeep F M = some (x, M')) : CM G yX10_fewestToKeep cX10_fewestToKeep 3 (some .int) (d + 5) [vR 11 0] M (some (vI x)) M' := by
  refine ct_i (ls := [some (vR 11 0), none, none]) rfl rfl (Nat.le_of_ble_eq_true rfl) (fun Z => ?_) h
  show SW G (d + 5) YX10_fewestToKeep Z 0 [some (vR 11 0), none, none] [] M _ _
  unfold m_X10_fewestToKeep
  refine s_step (g_iconst (iRow iCX10_fewestToKeep_0 0 rfl) kc_0) ?_
  refine s_step (g_istore_n (ls' := [some (vR 11 0), some (vI (0 : Int32)), none]) (iRow iCX10_fewestToKeep_0 1 rfl) rfl (by decide) rfl) ?_
  refine s_lp (fun z => [some (vR 11 0), some (vI (z.1)), none]) (fun z => z.2) (Sum.elim (fun z => LM G (d + 5) YX10_fewestToKeep Z 67 [none, none, some (vI (z.1))] [] z.2) (fun z => LM G (d + 5) YX10_fewestToKeep Z 81 [none, none, none] [] z)) rfl rfl ?_ ?_
  · rintro ⟨x1, M2⟩
    show SW G (d + 5) YX10_fewestToKeep Z 2 [some (vR 11 0), some (vI x1), none] [] M2 (b_X10_fewestToKeep_1c F x1 M2) _
    unfold b_X10_fewestToKeep_1c
    refine s_step (g_iload_n (iRow iCX10_fewestToKeep_0 2 rfl) rfl rfl) ?_
    refine s_step (g_aload_n (iRow iCX10_fewestToKeep_0 3 rfl) rfl rfl) ?_
    refine s_step (g_getR (iRow iCX10_fewestToKeep_0 4 rfl) f10_41 ko_11 (r_11_1 _ _)) ?_
    refine s_step (g_getI (iRow iCX10_fewestToKeep_0 5 rfl) f10_61 ko_1) ?_
    refine s_if (g_icmp_gt (tgt := 81) (iRow iCX10_fewestToKeep_0 6 rfl) (by decide)) (fun _ => ?_) (fun _ => ?_)
    · refine s_step (g_keep [false, false, false] rfl) ?_
      exact s_end (fun h => h)
    · refine s_step (g_iconst (iRow iCX10_fewestToKeep_0 7 rfl) kc_0) ?_
      refine s_step (g_istore_n (ls' := [some (vR 11 0), some (vI x1), some (vI (0 : Int32))]) (iRow iCX10_fewestToKeep_0 8 rfl) rfl (by decide) rfl) ?_
      refine s_lp (fun z => [some (vR 11 0), some (vI x1), some (vI (z.1))]) (fun z => z.2) (Sum.elim (fun z => LM G (d + 5) YX10_fewestToKeep Z 67 [none, none, some (vI (z.1))] [] z.2) (fun z => LM G (d + 5) YX10_fewestToKeep Z 75 [some (vR 11 0), some (vI x1), none] [] z)) rfl rfl ?_ ?_
      · rintro ⟨x3, M4⟩
        show SW G (d + 5) YX10_fewestToKeep Z 15 [some (vR 11 0), some (vI x1), some (vI x3)] [] M4 (b_X10_fewestToKeep_2c F x1 x3 M4) _
        unfold b_X10_fewestToKeep_2c
        refine s_step (g_iload_n (iRow iCX10_fewestToKeep_0 9 rfl) rfl rfl) ?_
        refine s_step (g_iconst (iRow iCX10_fewestToKeep_0 10 rfl) kc_1) ?_
        refine s_step (g_aload_n (iRow iCX10_fewestToKeep_0 11 rfl) rfl rfl) ?_
        refine s_step (g_getR (iRow iCX10_fewestToKeep_0 12 rfl) f10_41 ko_11 (r_11_1 _ _)) ?_
        refine s_step (g_getI (iRow iCX10_fewestToKeep_0 13 rfl) f10_61 ko_1) ?_
        refine s_step (g_ishl (iRow iCX10_fewestToKeep_0 14 rfl)) ?_
        refine s_if (g_icmp_ge (tgt := 75) (iRow iCX10_fewestToKeep_0 15 rfl) (by decide)) (fun _ => ?_) (fun _ => ?_)
        · refine s_step (g_keep [true, true, false] rfl) ?_
          exact s_end (fun h => h)
        · refine s_step (g_aload_n (iRow iCX10_fewestToKeep_0 16 rfl) rfl rfl) ?_
          refine s_step (g_iload_n (iRow iCX10_fewestToKeep_0 17 rfl) rfl rfl) ?_
          refine s_cb (sf := fun b => vI (bI b) :: []) (fun _ _ h => h_V (As := [_]) (iRow iCX10_fewestToKeep_0 18 rfl) l10_84 iX10_canBreak ko_11 rfl rfl rfl rfl (t_X10_canBreak (d + 4) h) rfl (by omega) (by decide) (Nat.le_of_ble_eq_true rfl)) (fun b6 M5 => ?_)
          refine s_nj 69 (fun z => [some (vR 11 0), some (vI x1), some (vI x3)]) (fun z => []) (fun z => z) ?_ (fun j69 hj69 => ?_)
          · rintro M13
            show SW G (d + 5) YX10_fewestToKeep Z 69 [some (vR 11 0), some (vI x1), some (vI x3)] [] M13 _ _
            try dsimp only
            refine s_step (g_iincc (c := 1) (ls' := [some (vR 11 0), some (vI x1), some (vI (x3 + (1 : Int32)))]) (iRow iCX10_fewestToKeep_1 13 rfl) rfl kc_1 (by decide) rfl) ?_
            refine s_step (g_goto (tgt := 15) (iRow iCX10_fewestToKeep_1 14 rfl) (by decide)) ?_
            exact s_end (fun h => h)
          · refine s_ifeqb (g_if_eq (tgt := 69) (iRow iCX10_fewestToKeep_0 19 rfl) (by decide)) (fun _ => ?_) (fun _ => ?_)
            · refine s_step (g_iload_n (iRow iCX10_fewestToKeep_0 20 rfl) rfl rfl) ?_
              refine s_cl (sf := fun x => vI x :: []) (fun _ _ h => h_S (As := [_]) (iRow iCX10_fewestToKeep_0 21 rfl) l10_88 iJ6_bitCount_0f7a4 rfl rfl (t_J6_bitCount_0f7a4 (d + 4) h) rfl (by omega) (by decide) (Nat.le_of_ble_eq_true rfl)) (fun x8 M7 => ?_)
              refine s_step (g_iload_n (iRow iCX10_fewestToKeep_0 22 rfl) rfl rfl) ?_
              refine s_ifn (g_icmp_ne (tgt := 69) (iRow iCX10_fewestToKeep_0 23 rfl) (by decide)) (fun _ => ?_) (fun _ => ?_)
              · refine s_step (g_aload_n (iRow iCX10_fewestToKeep_1 0 rfl) rfl rfl) ?_
                refine s_step (g_iload_n (iRow iCX10_fewestToKeep_1 1 rfl) rfl rfl) ?_
                refine s_cb (sf := fun b => vI (bI b) :: []) (fun _ _ h => h_V (As := [_]) (iRow iCX10_fewestToKeep_1 2 rfl) l10_97 iX10_endsClashes ko_11 rfl rfl rfl rfl (t_X10_endsClashes (d + 4) h) rfl (by omega) (by decide) (Nat.le_of_ble_eq_true rfl)) (fun b10 M9 => ?_)
                refine s_ifeqb (g_if_eq (tgt := 69) (iRow iCX10_fewestToKeep_1 3 rfl) (by decide)) (fun _ => ?_) (fun _ => ?_)
                · refine s_step (g_aload_n (iRow iCX10_fewestToKeep_1 4 rfl) rfl rfl) ?_
                  refine s_step (g_iload_n (iRow iCX10_fewestToKeep_1 5 rfl) rfl rfl) ?_
                  refine s_cl (sf := fun x => vI x :: []) (fun _ _ h => h_V (As := [_]) (iRow iCX10_fewestToKeep_1 6 rfl) l10_94 iX10_upIf ko_11 rfl rfl rfl rfl (t_X10_upIf (d + 0) h) rfl (by omega) (by decide) (Nat.le_of_ble_eq_true rfl)) (fun x12 M11 => ?_)
                  refine s_step (g_aload_n (iRow iCX10_fewestToKeep_1 7 rfl) rfl rfl) ?_
                  refine s_step (g_getR (iRow iCX10_fewestToKeep_1 8 rfl) f10_12 ko_11 (r_11_2 _ _)) ?_
                  refine s_step (g_getI (iRow iCX10_fewestToKeep_1 9 rfl) f10_75 ko_5) ?_
                  refine s_ifn (g_icmp_ne (tgt := 69) (iRow iCX10_fewestToKeep_1 10 rfl) (by decide)) (fun _ => ?_) (fun _ => ?_)
                  · refine s_step (g_keep [false, false, true] rfl) ?_
                    exact s_end (fun h => h)
                  · exact hj69 _
                · exact hj69 _
              · exact hj69 _
            · exact hj69 _
      · intro z
        rcases z with z | z
        · obtain ⟨x14, M15⟩ := z
          show SW G (d + 5) YX10_fewestToKeep Z 67 [none, none, some (vI x14)] [] M15 _ _
          try dsimp only [Sum.elim]
          exact s_end (fun h => h)
        · generalize z = M16
          show SW G (d + 5) YX10_fewestToKeep Z 75 [some (vR 11 0), some (vI x1), none] [] M16 _ _
          try dsimp only [Sum.elim]
          refine s_step (g_iincc (c := 1) (ls' := [some (vR 11 0), some (vI (x1 + (1 : Int32))), none]) (iRow iCX10_fewestToKeep_1 15 rfl) rfl kc_1 (by decide) rfl) ?_
          refine s_step (g_goto (tgt := 2) (iRow iCX10_fewestToKeep_1 16 rfl) (by decide)) ?_
          exact s_end (fun h => h)
  · intro z
    rcases z with z | z
    · obtain ⟨x17, M18⟩ := z
      show SW G (d + 5) YX10_fewestToKeep Z 67 [none, none, some (vI x17)] [] M18 _ _
      try dsimp only [Sum.elim]
      refine s_step (g_iload_n (iRow iCX10_fewestToKeep_1 11 rfl) rfl rfl) ?_
      exact s_reti (iRow iCX10_fewestToKeep_1 12 rfl) rfl
    · generalize z = M19
      show SW G (d + 5) YX10_fewestToKeep Z 81 [none, none, none] [] M19 _ _
      try dsimp only [Sum.elim]
      refine s_step (g_iconst (iRow iCX10_fewestToKeep_1 17 rfl) kc_m1) ?_
      exact s_reti (iRow iCX10_fewestToKeep_1 18 rfl) rfl
abbrev YX11_keep : mY := (RX11, "keep", cX11_keep, 1, (some .int), none)
set_option maxHeartbeats 400000 in
set_option maxRecDepth 20000 in
theorem t_X11_keep {G : mg} {F : Nat} {M : mm} {x : Int32} {M' : mm} (d : Nat) (h : m_X11_keep F M = some (x, M')) : CM G yX11_keep cX11_keep 1 (some .int) (d + 6) [vR 12 0] M (some (vI x)) M' := by
  refine ct_i (ls := [some (vR 12 0)]) rfl rfl (Nat.le_of_ble_eq_true rfl) (fun Z => ?_) h
  show SW G (d + 6) YX11_keep Z 0 [some (vR 12 0)] [] M _ _
  unfold m_X11_keep
  refine s_step (g_aload_n (iRow iCX11_keep_0 0 rfl) rfl rfl) ?_
  refine s_step (g_getR (iRow iCX11_keep_0 1 rfl) f11_66 ko_12 (r_12_4 _ _)) ?_
  refine s_step (g_aload_n (iRow iCX11_keep_0 2 rfl) rfl rfl) ?_
  refine s_step (g_getR (iRow iCX11_keep_0 3 rfl) f11_10 ko_12 (r_12_6 _ _)) ?_
  refine s_step (g_aload_n (iRow iCX11_keep_0 4 rfl) rfl rfl) ?_
  refine s_step (g_getR (iRow iCX11_keep_0 5 rfl) f11_82 ko_12 (r_12_8 _ _)) ?_
  refine s_cv (stA := []) (fun _ h => h_V (As := [_, _]) (iRow iCX11_keep_0 6 rfl) l11_244 iX10_look ko_11 rfl rfl rfl rfl (t_X10_look (d + 4) h) rfl (by omega) (by decide) (Nat.le_of_ble_eq_true rfl)) (fun M1 => ?_)
  refine s_step (g_aload_n (iRow iCX11_keep_0 7 rfl) rfl rfl) ?_
  refine s_step (g_getR (iRow iCX11_keep_0 8 rfl) f11_66 ko_12 (r_12_4 _ _)) ?_
  refine s_cl (sf := fun x => vI x :: []) (fun _ _ h => h_V (As := []) (iRow iCX11_keep_0 9 rfl) l11_270 iX10_fewestToKeep ko_11 rfl rfl rfl rfl (t_X10_fewestToKeep (d + 0) h) rfl (by omega) (by decide) (Nat.le_of_ble_eq_true rfl)) (fun x3 M2 => ?_)
  exact s_reti (iRow iCX11_keep_0 10 rfl) rfl
abbrev YX7_apologise : mY := (RX7, "apologise", cX7_apologise, 5, (some .boolean), none)
set_option maxHeartbeats 400000 in
set_option maxRecDepth 20000 in
theorem t_X7_apologise {G : mg} {F : Nat} {a1 : Nat} {a2 : Int32} {M : mm} {x : Bool} {M' : mm} (d : Nat) (h : m_X7_apologise F a1 a2 M = some (x, M')) : CM G yX7_apologise cX7_apologise 5 (some .boolean) (d + 5) [vR 8 0, vR 1 a1, vI a2] M (some (vI (bI x))) M' := by
  refine ct_z (ls := [some (vR 8 0), some (vR 1 a1), some (vI a2), none, none]) rfl rfl (Nat.le_of_ble_eq_true rfl) (fun Z => ?_) h
  show SW G (d + 5) YX7_apologise Z 0 [some (vR 8 0), some (vR 1 a1), some (vI a2), none, none] [] M _ _
  unfold m_X7_apologise
  refine s_step (g_aload_n (iRow iCX7_apologise_0 0 rfl) rfl rfl) ?_
  refine s_step (g_getR (iRow iCX7_apologise_0 1 rfl) f7_18 ko_8 (r_8_2 _ _)) ?_
  refine s_step (g_iload_n (iRow iCX7_apologise_0 2 rfl) rfl rfl) ?_
  refine s_step (g_iconst (iRow iCX7_apologise_0 3 rfl) kc_1) ?_
  refine s_step (g_iadd (iRow iCX7_apologise_0 4 rfl)) ?_
  refine s_gi (fun h => g_aald (iRow iCX7_apologise_0 5 rfl) kn_42 ka_42 (by decide) h (r_42 _ _ _) rfl (fun _ h => by cases h)) ?_
  refine s_nmR (fun x1 => ?_)
  refine s_step (g_astore_n (ls' := [some (vR 8 0), some (vR 1 a1), some (vI a2), some (vR 5 x1), none]) (iRow iCX7_apologise_0 6 rfl) rfl (by decide) rfl) ?_
  refine s_step (g_aload_n (iRow iCX7_apologise_0 7 rfl) rfl rfl) ?_
  refine s_step (g_aload_n (iRow iCX7_apologise_0 8 rfl) rfl rfl) ?_
  refine s_step (g_getR (iRow iCX7_apologise_0 9 rfl) f7_18 ko_8 (r_8_2 _ _)) ?_
  refine s_step (g_iload_n (iRow iCX7_apologise_0 10 rfl) rfl rfl) ?_
  refine s_gi (fun h => g_aald (iRow iCX7_apologise_0 11 rfl) kn_42 ka_42 (by decide) h (r_42 _ _ _) rfl (fun _ h => by cases h)) ?_
  refine s_cv (stA := []) (fun _ h => h_V (As := [_]) (iRow iCX7_apologise_0 12 rfl) l7_69 iX4_copy ko_5 rfl rfl rfl rfl (t_X4_copy (d + 4) h) rfl (by omega) (by decide) (Nat.le_of_ble_eq_true rfl)) (fun M2 => ?_)
  refine s_step (g_aload_n (iRow iCX7_apologise_0 13 rfl) rfl rfl) ?_
  refine s_step (g_getR (iRow iCX7_apologise_0 14 rfl) f7_29 ko_8 (r_8_0 _ _)) ?_
  refine s_step (g_aload_n (iRow iCX7_apologise_0 15 rfl) rfl rfl) ?_
  refine s_step (g_aload_n (iRow iCX7_apologise_0 16 rfl) rfl rfl) ?_
  refine s_step (g_aload_n (iRow iCX7_apologise_0 17 rfl) rfl rfl) ?_
  refine s_step (g_getR (iRow iCX7_apologise_0 18 rfl) f7_22 ko_8 (r_8_3 _ _)) ?_
  refine s_step (g_iload_n (iRow iCX7_apologise_0 19 rfl) rfl rfl) ?_
  refine s_gi (fun h => g_iald (iRow iCX7_apologise_0 20 rfl) kn_43 ka_43 h) ?_
  refine s_cb (sf := fun b => vI (bI b) :: []) (fun _ _ h => h_V (As := [_, _, _]) (iRow iCX7_apologise_0 21 rfl) l7_90 iX1_pardon ko_2 rfl rfl rfl rfl (t_X1_pardon (d + 0) h) rfl (by omega) (by decide) (Nat.le_of_ble_eq_true rfl)) (fun b4 M3 => ?_)
  refine s_ifneb (g_if_ne (tgt := 39) (iRow iCX7_apologise_0 22 rfl) (by decide)) (fun _ => ?_) (fun _ => ?_)
  · refine s_step (g_iconst (iRow iCX7_apologise_1 1 rfl) kc_0) ?_
    refine s_step (g_istore (ls' := [some (vR 8 0), some (vR 1 a1), some (vI a2), some (vR 5 x1), some (vI (0 : Int32))]) (iRow iCX7_apologise_1 2 rfl) (by decide) rfl) ?_
    refine s_step (g_keep [true, true, false, true, true] rfl) ?_
    refine s_lp (fun z => [some (vR 8 0), some (vR 1 a1), none, some (vR 5 x1), some (vI (z.1))]) (fun z => z.2) (fun z => LM G (d + 5) YX7_apologise Z 69 [some (vR 8 0), some (vR 1 a1), none, some (vR 5 x1), none] [] z) rfl rfl ?_ ?_
    · rintro ⟨x5, M6⟩
      show SW G (d + 5) YX7_apologise Z 42 [some (vR 8 0), some (vR 1 a1), none, some (vR 5 x1), some (vI x5)] [] M6 (b_X7_apologise_1c F a1 x1 x5 M6) _
      unfold b_X7_apologise_1c
      refine s_step (g_iload (iRow iCX7_apologise_1 3 rfl) rfl) ?_
      refine s_step (g_aload_n (iRow iCX7_apologise_1 4 rfl) rfl rfl) ?_
      refine s_step (g_getI (iRow iCX7_apologise_1 5 rfl) f7_94 ko_1) ?_
      refine s_if (g_icmp_ge (tgt := 69) (iRow iCX7_apologise_1 6 rfl) (by decide)) (fun _ => ?_) (fun _ => ?_)
      · refine s_step (g_keep [true, true, false, true, false] rfl) ?_
        exact s_end (fun h => h)
      · refine s_step (g_aload_n (iRow iCX7_apologise_1 7 rfl) rfl rfl) ?_
        refine s_step (g_getR (iRow iCX7_apologise_1 8 rfl) f7_29 ko_8 (r_8_0 _ _)) ?_
        refine s_step (g_aload_n (iRow iCX7_apologise_1 9 rfl) rfl rfl) ?_
        refine s_step (g_aload_n (iRow iCX7_apologise_1 10 rfl) rfl rfl) ?_
        refine s_step (g_iload (iRow iCX7_apologise_1 11 rfl) rfl) ?_
        refine s_cb (sf := fun b => vI (bI b) :: []) (fun _ _ h => h_V (As := [_, _, _]) (iRow iCX7_apologise_1 12 rfl) l7_97 iX1_lift ko_2 rfl rfl rfl rfl (t_X1_lift (d + 0) h) rfl (by omega) (by decide) (Nat.le_of_ble_eq_true rfl)) (fun b8 M7 => ?_)
        refine s_step (g_pop (iRow iCX7_apologise_1 13 rfl) rfl) ?_
        refine s_step (g_iincc (c := 1) (ls' := [some (vR 8 0), some (vR 1 a1), none, some (vR 5 x1), some (vI (x5 + (1 : Int32)))]) (iRow iCX7_apologise_1 14 rfl) rfl kc_1 (by decide) rfl) ?_
        refine s_step (g_goto (tgt := 42) (iRow iCX7_apologise_1 15 rfl) (by decide)) ?_
        exact s_end (fun h => h)
    · rintro M9
      show SW G (d + 5) YX7_apologise Z 69 [some (vR 8 0), some (vR 1 a1), none, some (vR 5 x1), none] [] M9 _ _
      try dsimp only
      refine s_step (g_aload_n (iRow iCX7_apologise_1 16 rfl) rfl rfl) ?_
      refine s_step (g_getR (iRow iCX7_apologise_1 17 rfl) f7_29 ko_8 (r_8_0 _ _)) ?_
      refine s_step (g_aload_n (iRow iCX7_apologise_1 18 rfl) rfl rfl) ?_
      refine s_step (g_aload_n (iRow iCX7_apologise_1 19 rfl) rfl rfl) ?_
      refine s_cv (stA := []) (fun _ h => h_V (As := [_, _]) (iRow iCX7_apologise_1 20 rfl) l7_100 iX1_pass ko_2 rfl rfl rfl rfl (t_X1_pass (d + 0) h) rfl (by omega) (by decide) (Nat.le_of_ble_eq_true rfl)) (fun M10 => ?_)
      refine s_step (g_iconst (iRow iCX7_apologise_1 21 rfl) kc_1) ?_
      exact s_retz (b := true) (iRow iCX7_apologise_1 22 rfl) rfl rfl
  · refine s_step (g_iconst (iRow iCX7_apologise_0 23 rfl) kc_0) ?_
    exact s_retz (b := false) (iRow iCX7_apologise_1 0 rfl) rfl rfl
abbrev YX0_weightOf : mY := (RX0, "weightOf", cX0_weightOf, 4, (some .int), none)
set_option maxHeartbeats 400000 in
set_option maxRecDepth 20000 in
theorem t_X0_weightOf {G : mg} {F : Nat} {o : Nat} {a1 : Int32} {M : mm} {x : Int32} {M' : mm} (d : Nat) (h : m_X0_weightOf F o a1 M = some (x, M')) : CM G yX0_weightOf cX0_weightOf 4 (some .int) (d + 0) [vR 1 o, vI a1] M (some (vI x)) M' := by
  refine ct_i (ls := [some (vR 1 o), some (vI a1), none, none]) rfl rfl (Nat.le_of_ble_eq_true rfl) (fun Z => ?_) h
  show SW G (d + 0) YX0_weightOf Z 0 [some (vR 1 o), some (vI a1), none, none] [] M _ _
  unfold m_X0_weightOf
  refine s_step (g_iconst (iRow iCX0_weightOf_0 0 rfl) kc_0) ?_
  refine s_step (g_istore_n (ls' := [some (vR 1 o), some (vI a1), some (vI (0 : Int32)), none]) (iRow iCX0_weightOf_0 1 rfl) rfl (by decide) rfl) ?_
  refine s_step (g_iconst (iRow iCX0_weightOf_0 2 rfl) kc_0) ?_
  refine s_step (g_istore_n (ls' := [some (vR 1 o), some (vI a1), some (vI (0 : Int32)), some (vI (0 : Int32))]) (iRow iCX0_weightOf_0 3 rfl) rfl (by decide) rfl) ?_
  refine s_lp (fun z => [some (vR 1 o), some (vI a1), some (vI (z.1)), some (vI (z.2))]) (fun _ => M) (fun z => LM G (d + 0) YX0_weightOf Z 39 [none, none, some (vI z), none] [] M) rfl rfl ?_ ?_
  · rintro ⟨x1, x2⟩
    show SW G (d + 0) YX0_weightOf Z 4 [some (vR 1 o), some (vI a1), some (vI x1), some (vI x2)] [] M (b_X0_weightOf_1c F o a1 M x1 x2) _
    unfold b_X0_weightOf_1c
    refine s_step (g_iload_n (iRow iCX0_weightOf_0 4 rfl) rfl rfl) ?_
    refine s_step (g_aload_n (iRow iCX0_weightOf_0 5 rfl) rfl rfl) ?_
    refine s_step (g_getI (iRow iCX0_weightOf_0 6 rfl) f0_72 ko_1) ?_
    refine s_if (g_icmp_ge (tgt := 39) (iRow iCX0_weightOf_0 7 rfl) (by decide)) (fun _ => ?_) (fun _ => ?_)
    · refine s_step (g_keep [false, false, true, false] rfl) ?_
      exact s_end (fun h => h)
    · refine s_step (g_iload_n (iRow iCX0_weightOf_0 8 rfl) rfl rfl) ?_
      refine s_step (g_iload_n (iRow iCX0_weightOf_0 9 rfl) rfl rfl) ?_
      refine s_step (g_iload_n (iRow iCX0_weightOf_0 10 rfl) rfl rfl) ?_
      refine s_step (g_ishr (iRow iCX0_weightOf_0 11 rfl)) ?_
      refine s_step (g_iconst (iRow iCX0_weightOf_0 12 rfl) kc_1) ?_
      refine s_step (g_iand (iRow iCX0_weightOf_0 13 rfl)) ?_
      refine s_bd (fun z => LM G (d + 0) YX0_weightOf Z 31 [some (vR 1 o), some (vI a1), none, some (vI x2)] [vI z, vI x1] M) ?_ ?_
      · refine s_if (g_if_eq (tgt := 30) (iRow iCX0_weightOf_0 14 rfl) (by decide)) (fun _ => ?_) (fun _ => ?_)
        · refine s_step (g_iconst (iRow iCX0_weightOf_0 20 rfl) kc_0) ?_
          refine s_step (g_keep [true, true, false, true] rfl) ?_
          exact s_end (fun h => h)
        · refine s_step (g_aload_n (iRow iCX0_weightOf_0 15 rfl) rfl rfl) ?_
          refine s_step (g_getR (iRow iCX0_weightOf_0 16 rfl) f0_46 ko_1 (r_1_15 _ _)) ?_
          refine s_step (g_iload_n (iRow iCX0_weightOf_0 17 rfl) rfl rfl) ?_
          refine s_gi (fun h => g_iald (iRow iCX0_weightOf_0 18 rfl) kn_31 ka_31 h) ?_
          refine s_step (g_goto (tgt := 31) (iRow iCX0_weightOf_0 19 rfl) (by decide)) ?_
          refine s_step (g_keep [true, true, false, true] rfl) ?_
          exact s_end (fun h => h)
      · rintro x3
        show SW G (d + 0) YX0_weightOf Z 31 [some (vR 1 o), some (vI a1), none, some (vI x2)] [vI x3, vI x1] M _ _
        try dsimp only
        refine s_step (g_iadd (iRow iCX0_weightOf_0 21 rfl)) ?_
        refine s_nmI (fun x4 => ?_)
        refine s_step (g_istore_n (ls' := [some (vR 1 o), some (vI a1), some (vI x4), some (vI x2)]) (iRow iCX0_weightOf_0 22 rfl) rfl (by decide) rfl) ?_
        refine s_step (g_iincc (c := 1) (ls' := [some (vR 1 o), some (vI a1), some (vI x4), some (vI (x2 + (1 : Int32)))]) (iRow iCX0_weightOf_0 23 rfl) rfl kc_1 (by decide) rfl) ?_
        refine s_step (g_goto (tgt := 4) (iRow iCX0_weightOf_1 0 rfl) (by decide)) ?_
        exact s_end (fun h => h)
  · rintro x5
    show SW G (d + 0) YX0_weightOf Z 39 [none, none, some (vI x5), none] [] M _ _
    try dsimp only
    refine s_step (g_iload_n (iRow iCX0_weightOf_1 1 rfl) rfl rfl) ?_
    exact s_reti (iRow iCX0_weightOf_1 2 rfl) rfl
abbrev YX7_preferRow : mY := (RX7, "preferRow", cX7_preferRow, 4, none, none)
set_option maxHeartbeats 400000 in
set_option maxRecDepth 20000 in
theorem t_X7_preferRow {G : mg} {F : Nat} {a1 : Int32} {a2 : Int32} {M : mm} {M' : mm} (d : Nat) (h : m_X7_preferRow F a1 a2 M = some M') : CM G yX7_preferRow cX7_preferRow 4 none (d + 0) [vR 8 0, vI a1, vI a2] M none M' := by
  refine ct_v (ls := [some (vR 8 0), some (vI a1), some (vI a2), none]) rfl rfl (Nat.le_of_ble_eq_true rfl) (fun Z => ?_) h
  show SW G (d + 0) YX7_preferRow Z 0 [some (vR 8 0), some (vI a1), some (vI a2), none] [] M _ _
  unfold m_X7_preferRow
  refine s_step (g_iload_n (iRow iCX7_preferRow_0 0 rfl) rfl rfl) ?_
  refine s_step (g_aload_n (iRow iCX7_preferRow_0 1 rfl) rfl rfl) ?_
  refine s_step (g_getI (iRow iCX7_preferRow_0 2 rfl) f7_66 ko_8) ?_
  refine s_if (g_icmp_le (tgt := 38) (iRow iCX7_preferRow_0 3 rfl) (by decide)) (fun _ => ?_) (fun _ => ?_)
  · exact s_retv (iRow iCX7_preferRow_0 22 rfl) rfl
  · refine s_step (g_aload_n (iRow iCX7_preferRow_0 4 rfl) rfl rfl) ?_
    refine s_step (g_iload_n (iRow iCX7_preferRow_0 5 rfl) rfl rfl) ?_
    refine s_step (g_putI (iRow iCX7_preferRow_0 6 rfl) f7_66 (Or.inl rfl) ko_8) ?_
    refine s_nmM (fun M1 => ?_)
    refine s_step (g_iconst (iRow iCX7_preferRow_0 7 rfl) kc_0) ?_
    refine s_step (g_istore_n (ls' := [some (vR 8 0), some (vI a1), some (vI a2), some (vI (0 : Int32))]) (iRow iCX7_preferRow_0 8 rfl) rfl (by decide) rfl) ?_
    refine s_step (g_keep [true, false, true, true] rfl) ?_
    refine s_lp (fun z => [some (vR 8 0), none, some (vI a2), some (vI (z.1))]) (fun z => z.2) (fun z => LM G (d + 0) YX7_preferRow Z 38 [none, none, none, none] [] z) rfl rfl ?_ ?_
    · rintro ⟨x2, M3⟩
      show SW G (d + 0) YX7_preferRow Z 15 [some (vR 8 0), none, some (vI a2), some (vI x2)] [] M3 (b_X7_preferRow_1c F a2 x2 M3) _
      unfold b_X7_preferRow_1c
      refine s_step (g_iload_n (iRow iCX7_preferRow_0 9 rfl) rfl rfl) ?_
      refine s_step (g_iload_n (iRow iCX7_preferRow_0 10 rfl) rfl rfl) ?_
      refine s_if (g_icmp_ge (tgt := 38) (iRow iCX7_preferRow_0 11 rfl) (by decide)) (fun _ => ?_) (fun _ => ?_)
      · refine s_step (g_keep [false, false, false, false] rfl) ?_
        exact s_end (fun h => h)
      · refine s_step (g_aload_n (iRow iCX7_preferRow_0 12 rfl) rfl rfl) ?_
        refine s_step (g_getR (iRow iCX7_preferRow_0 13 rfl) f7_26 ko_8 (r_8_4 _ _)) ?_
        refine s_step (g_iload_n (iRow iCX7_preferRow_0 14 rfl) rfl rfl) ?_
        refine s_step (g_aload_n (iRow iCX7_preferRow_0 15 rfl) rfl rfl) ?_
        refine s_step (g_getR (iRow iCX7_preferRow_0 16 rfl) f7_22 ko_8 (r_8_3 _ _)) ?_
        refine s_step (g_iload_n (iRow iCX7_preferRow_0 17 rfl) rfl rfl) ?_
        refine s_gi (fun h => g_iald (iRow iCX7_preferRow_0 18 rfl) kn_43 ka_43 h) ?_
        refine s_gi (fun h => g_iast (iRow iCX7_preferRow_0 19 rfl) kn_44 ka_44 h) ?_
        refine s_nmM (fun M4 => ?_)
        refine s_step (g_iincc (c := 1) (ls' := [some (vR 8 0), none, some (vI a2), some (vI (x2 + (1 : Int32)))]) (iRow iCX7_preferRow_0 20 rfl) rfl kc_1 (by decide) rfl) ?_
        refine s_step (g_goto (tgt := 15) (iRow iCX7_preferRow_0 21 rfl) (by decide)) ?_
        exact s_end (fun h => h)
    · rintro M5
      show SW G (d + 0) YX7_preferRow Z 38 [none, none, none, none] [] M5 _ _
      try dsimp only
      exact s_retv (iRow iCX7_preferRow_0 22 rfl) rfl
abbrev YX7_findRow : mY := (RX7, "findRow", cX7_findRow, 6, none, none)
set_option maxHeartbeats 400000 in
set_option maxRecDepth 20000 in
theorem t_X7_findRow {G : mg} {F : Nat} {a1 : Nat} {a2 : Nat} {a3 : Int32} {M : mm} {M' : mm} (d : Nat) (h : m_X7_findRow F a1 a2 a3 M = some M') : CM G yX7_findRow cX7_findRow 6 none (d + 6) [vR 8 0, vR 1 a1, vR 5 a2, vI a3] M none M' := by
  refine ct_v (ls := [some (vR 8 0), some (vR 1 a1), some (vR 5 a2), some (vI a3), none, none]) rfl rfl (Nat.le_of_ble_eq_true rfl) (fun Z => ?_) h
  show SW G (d + 6) YX7_findRow Z 0 [some (vR 8 0), some (vR 1 a1), some (vR 5 a2), some (vI a3), none, none] [] M _ _
  unfold m_X7_findRow
  refine s_step (g_aload_n (iRow iCX7_findRow_0 0 rfl) rfl rfl) ?_
  refine s_step (g_iconst (iRow iCX7_findRow_0 1 rfl) kc_m1) ?_
  refine s_step (g_putI (iRow iCX7_findRow_0 2 rfl) f7_66 (Or.inl rfl) ko_8) ?_
  refine s_nmM (fun M1 => ?_)
  refine s_step (g_aload_n (iRow iCX7_findRow_0 3 rfl) rfl rfl) ?_
  refine s_step (g_getR (iRow iCX7_findRow_0 4 rfl) f7_18 ko_8 (r_8_2 _ _)) ?_
  refine s_step (g_iconst (iRow iCX7_findRow_0 5 rfl) kc_0) ?_
  refine s_gi (fun h => g_aald (iRow iCX7_findRow_0 6 rfl) kn_42 ka_42 (by decide) h (r_42 _ _ _) rfl (fun _ h => by cases h)) ?_
  refine s_step (g_aload_n (iRow iCX7_findRow_0 7 rfl) rfl rfl) ?_
  refine s_cv (stA := []) (fun _ h => h_V (As := [_]) (iRow iCX7_findRow_0 8 rfl) l7_69 iX4_copy ko_5 rfl rfl rfl rfl (t_X4_copy (d + 5) h) rfl (by omega) (by decide) (Nat.le_of_ble_eq_true rfl)) (fun M2 => ?_)
  refine s_step (g_iconst (iRow iCX7_findRow_0 9 rfl) kc_0) ?_
  refine s_step (g_istore (ls' := [some (vR 8 0), some (vR 1 a1), some (vR 5 a2), some (vI a3), some (vI (0 : Int32)), none]) (iRow iCX7_findRow_0 10 rfl) (by decide) rfl) ?_
  refine s_step (g_aload_n (iRow iCX7_findRow_0 11 rfl) rfl rfl) ?_
  refine s_step (g_getR (iRow iCX7_findRow_0 12 rfl) f7_22 ko_8 (r_8_3 _ _)) ?_
  refine s_step (g_iconst (iRow iCX7_findRow_0 13 rfl) kc_0) ?_
  refine s_step (g_iconst (iRow iCX7_findRow_0 14 rfl) kc_m1) ?_
  refine s_gi (fun h => g_iast (iRow iCX7_findRow_0 15 rfl) kn_43 ka_43 h) ?_
  refine s_nmM (fun M3 => ?_)
  refine s_step (g_iconst (iRow iCX7_findRow_0 16 rfl) kc_0) ?_
  refine s_step (g_istore (ls' := [some (vR 8 0), some (vR 1 a1), some (vR 5 a2), some (vI a3), some (vI (0 : Int32)), some (vI (0 : Int32))]) (iRow iCX7_findRow_0 17 rfl) (by decide) rfl) ?_
  refine s_step (g_keep [true, true, false, true, true, true] rfl) ?_
  refine s_lp (fun z => [some (vR 8 0), some (vR 1 a1), none, some (vI a3), some (vI (z.1)), some (vI (z.2.1))]) (fun z => z.2.2) (fun z => LM G (d + 6) YX7_findRow Z 128 [none, none, none, none, none, none] [] z) rfl rfl ?_ ?_
  · rintro ⟨x4, x5, M6⟩
    show SW G (d + 6) YX7_findRow Z 28 [some (vR 8 0), some (vR 1 a1), none, some (vI a3), some (vI x4), some (vI x5)] [] M6 (b_X7_findRow_1c F a1 a3 x4 x5 M6) _
    unfold b_X7_findRow_1c
    refine s_step (g_iload (iRow iCX7_findRow_0 18 rfl) rfl) ?_
    refine s_step (g_sipush (iRow iCX7_findRow_0 19 rfl) ks_10000) ?_
    refine s_if (g_icmp_ge (tgt := 128) (iRow iCX7_findRow_0 20 rfl) (by decide)) (fun _ => ?_) (fun _ => ?_)
    · refine s_step (g_keep [false, false, false, false, false, false] rfl) ?_
      exact s_end (fun h => h)
    · refine s_step (g_iload (iRow iCX7_findRow_0 21 rfl) rfl) ?_
      refine s_if (g_if_lt (tgt := 128) (iRow iCX7_findRow_0 22 rfl) (by decide)) (fun _ => ?_) (fun _ => ?_)
      · refine s_step (g_keep [false, false, false, false, false, false] rfl) ?_
        exact s_end (fun h => h)
      · refine s_step (g_aload_n (iRow iCX7_findRow_0 23 rfl) rfl rfl) ?_
        refine s_step (g_getR (iRow iCX7_findRow_1 0 rfl) f7_22 ko_8 (r_8_3 _ _)) ?_
        refine s_step (g_iload (iRow iCX7_findRow_1 1 rfl) rfl) ?_
        refine s_step (g_dup2 (iRow iCX7_findRow_1 2 rfl) rfl rfl) ?_
        refine s_gi (fun h => g_iald (iRow iCX7_findRow_1 3 rfl) kn_43 ka_43 h) ?_
        refine s_step (g_iconst (iRow iCX7_findRow_1 4 rfl) kc_1) ?_
        refine s_step (g_iadd (iRow iCX7_findRow_1 5 rfl)) ?_
        refine s_gi (fun h => g_iast (iRow iCX7_findRow_1 6 rfl) kn_43 ka_43 h) ?_
        refine s_nmM (fun M7 => ?_)
        refine s_step (g_aload_n (iRow iCX7_findRow_1 7 rfl) rfl rfl) ?_
        refine s_step (g_getR (iRow iCX7_findRow_1 8 rfl) f7_22 ko_8 (r_8_3 _ _)) ?_
        refine s_step (g_iload (iRow iCX7_findRow_1 9 rfl) rfl) ?_
        refine s_gi (fun h => g_iald (iRow iCX7_findRow_1 10 rfl) kn_43 ka_43 h) ?_
        refine s_step (g_aload_n (iRow iCX7_findRow_1 11 rfl) rfl rfl) ?_
        refine s_step (g_getI (iRow iCX7_findRow_1 12 rfl) f7_73 ko_1) ?_
        refine s_bd (fun z => LM G (d + 6) YX7_findRow Z 122 [some (vR 8 0), some (vR 1 a1), none, some (vI a3), some (vI (z.1)), some (vI x5)] [] z.2) ?_ ?_
        · refine s_if (g_icmp_lt (tgt := 72) (iRow iCX7_findRow_1 13 rfl) (by decide)) (fun _ => ?_) (fun _ => ?_)
          · refine s_step (g_aload_n (iRow iCX7_findRow_1 16 rfl) rfl rfl) ?_
            refine s_step (g_aload_n (iRow iCX7_findRow_1 17 rfl) rfl rfl) ?_
            refine s_step (g_iload (iRow iCX7_findRow_1 18 rfl) rfl) ?_
            refine s_cb (sf := fun b => vI (bI b) :: []) (fun _ _ h => h_V (As := [_, _]) (iRow iCX7_findRow_1 19 rfl) l7_78 iX7_apologise ko_8 rfl rfl rfl rfl (t_X7_apologise (d + 0) h) rfl (by omega) (by decide) (Nat.le_of_ble_eq_true rfl)) (fun b9 M8 => ?_)
            refine s_ifeqb (g_if_eq (tgt := 122) (iRow iCX7_findRow_1 20 rfl) (by decide)) (fun _ => ?_) (fun _ => ?_)
            · refine s_step (g_iload (iRow iCX7_findRow_1 21 rfl) rfl) ?_
              refine s_step (g_iconst (iRow iCX7_findRow_1 22 rfl) kc_1) ?_
              refine s_step (g_iadd (iRow iCX7_findRow_1 23 rfl)) ?_
              refine s_step (g_iload_n (iRow iCX7_findRow_2 0 rfl) rfl rfl) ?_
              refine s_if (g_icmp_ge (tgt := 104) (iRow iCX7_findRow_2 1 rfl) (by decide)) (fun _ => ?_) (fun _ => ?_)
              · refine s_step (g_aload_n (iRow iCX7_findRow_2 9 rfl) rfl rfl) ?_
                refine s_step (g_aload_n (iRow iCX7_findRow_2 10 rfl) rfl rfl) ?_
                refine s_step (g_aload_n (iRow iCX7_findRow_2 11 rfl) rfl rfl) ?_
                refine s_step (g_getR (iRow iCX7_findRow_2 12 rfl) f7_18 ko_8 (r_8_2 _ _)) ?_
                refine s_step (g_iload_n (iRow iCX7_findRow_2 13 rfl) rfl rfl) ?_
                refine s_gi (fun h => g_aald (iRow iCX7_findRow_2 14 rfl) kn_42 ka_42 (by decide) h (r_42 _ _ _) rfl (fun _ h => by cases h)) ?_
                refine s_step (g_getI (iRow iCX7_findRow_2 15 rfl) f7_51 ko_5) ?_
                refine s_cl (sf := fun x => vI x :: [vR 8 0]) (fun _ _ h => h_V (As := [_]) (iRow iCX7_findRow_2 16 rfl) l7_82 iX0_weightOf ko_1 rfl rfl rfl rfl (t_X0_weightOf (d + 5) h) rfl (by omega) (by decide) (Nat.le_of_ble_eq_true rfl)) (fun x11 M10 => ?_)
                refine s_step (g_iload_n (iRow iCX7_findRow_2 17 rfl) rfl rfl) ?_
                refine s_cv (stA := []) (fun _ h => h_V (As := [_, _]) (iRow iCX7_findRow_2 18 rfl) l7_86 iX7_preferRow ko_8 rfl rfl rfl rfl (t_X7_preferRow (d + 5) h) rfl (by omega) (by decide) (Nat.le_of_ble_eq_true rfl)) (fun M12 => ?_)
                exact s_end (fun h => h)
              · refine s_step (g_iincc (c := 1) (ls' := [some (vR 8 0), some (vR 1 a1), none, some (vI a3), some (vI (x4 + (1 : Int32))), some (vI x5)]) (iRow iCX7_findRow_2 2 rfl) rfl kc_1 (by decide) rfl) ?_
                refine s_step (g_aload_n (iRow iCX7_findRow_2 3 rfl) rfl rfl) ?_
                refine s_step (g_getR (iRow iCX7_findRow_2 4 rfl) f7_22 ko_8 (r_8_3 _ _)) ?_
                refine s_step (g_iload (iRow iCX7_findRow_2 5 rfl) rfl) ?_
                refine s_step (g_iconst (iRow iCX7_findRow_2 6 rfl) kc_m1) ?_
                refine s_gi (fun h => g_iast (iRow iCX7_findRow_2 7 rfl) kn_43 ka_43 h) ?_
                refine s_nmM (fun M13 => ?_)
                refine s_step (g_goto (tgt := 122) (iRow iCX7_findRow_2 8 rfl) (by decide)) ?_
                exact s_end (fun h => h)
            · exact s_end (fun h => h)
          · refine s_step (g_iincc (c := (-1)) (ls' := [some (vR 8 0), some (vR 1 a1), none, some (vI a3), some (vI (x4 + (-1 : Int32))), some (vI x5)]) (iRow iCX7_findRow_1 14 rfl) rfl kc_m1 (by decide) rfl) ?_
            refine s_step (g_goto (tgt := 122) (iRow iCX7_findRow_1 15 rfl) (by decide)) ?_
            exact s_end (fun h => h)
        · rintro ⟨x14, M15⟩
          show SW G (d + 6) YX7_findRow Z 122 [some (vR 8 0), some (vR 1 a1), none, some (vI a3), some (vI x14), some (vI x5)] [] M15 _ _
          try dsimp only
          refine s_step (g_iincc (c := 1) (ls' := [some (vR 8 0), some (vR 1 a1), none, some (vI a3), some (vI x14), some (vI (x5 + (1 : Int32)))]) (iRow iCX7_findRow_2 19 rfl) rfl kc_1 (by decide) rfl) ?_
          refine s_step (g_goto (tgt := 28) (iRow iCX7_findRow_2 20 rfl) (by decide)) ?_
          exact s_end (fun h => h)
  · rintro M16
    show SW G (d + 6) YX7_findRow Z 128 [none, none, none, none, none, none] [] M16 _ _
    try dsimp only
    exact s_retv (iRow iCX7_findRow_2 21 rfl) rfl
abbrev YX11_repair : mY := (RX11, "repair", cX11_repair, 3, (some .int), none)
set_option maxHeartbeats 400000 in
set_option maxRecDepth 20000 in
theorem t_X11_repair {G : mg} {F : Nat} {a1 : Int32} {a2 : Int32} {M : mm} {x : Int32} {M' : mm} (d : Nat) (h : m_X11_repair F a1 a2 M = some (x, M')) : CM G yX11_repair cX11_repair 3 (some .int) (d + 7) [vR 12 0, vI a1, vI a2] M (some (vI x)) M' := by
  refine ct_i (ls := [some (vR 12 0), some (vI a1), some (vI a2)]) rfl rfl (Nat.le_of_ble_eq_true rfl) (fun Z => ?_) h
  show SW G (d + 7) YX11_repair Z 0 [some (vR 12 0), some (vI a1), some (vI a2)] [] M _ _
  unfold m_X11_repair
  refine s_step (g_iload_n (iRow iCX11_repair_0 0 rfl) rfl rfl) ?_
  refine s_step (g_iconst (iRow iCX11_repair_0 1 rfl) kc_1) ?_
  refine s_if (g_icmp_lt (tgt := 33) (iRow iCX11_repair_0 2 rfl) (by decide)) (fun _ => ?_) (fun _ => ?_)
  · refine s_step (g_iconst (iRow iCX11_repair_0 17 rfl) kc_m1) ?_
    exact s_reti (iRow iCX11_repair_0 18 rfl) rfl
  · refine s_step (g_iload_n (iRow iCX11_repair_0 3 rfl) rfl rfl) ?_
    refine s_step (g_iconst (iRow iCX11_repair_0 4 rfl) kc_3) ?_
    refine s_if (g_icmp_gt (tgt := 33) (iRow iCX11_repair_0 5 rfl) (by decide)) (fun _ => ?_) (fun _ => ?_)
    · refine s_step (g_iconst (iRow iCX11_repair_0 17 rfl) kc_m1) ?_
      exact s_reti (iRow iCX11_repair_0 18 rfl) rfl
    · refine s_step (g_iload_n (iRow iCX11_repair_0 6 rfl) rfl rfl) ?_
      refine s_if (g_if_lt (tgt := 33) (iRow iCX11_repair_0 7 rfl) (by decide)) (fun _ => ?_) (fun _ => ?_)
      · refine s_step (g_iconst (iRow iCX11_repair_0 17 rfl) kc_m1) ?_
        exact s_reti (iRow iCX11_repair_0 18 rfl) rfl
      · refine s_step (g_iload_n (iRow iCX11_repair_0 8 rfl) rfl rfl) ?_
        refine s_step (g_iload_n (iRow iCX11_repair_0 9 rfl) rfl rfl) ?_
        refine s_if (g_icmp_gt (tgt := 33) (iRow iCX11_repair_0 10 rfl) (by decide)) (fun _ => ?_) (fun _ => ?_)
        · refine s_step (g_iconst (iRow iCX11_repair_0 17 rfl) kc_m1) ?_
          exact s_reti (iRow iCX11_repair_0 18 rfl) rfl
        · refine s_step (g_aload_n (iRow iCX11_repair_0 11 rfl) rfl rfl) ?_
          refine s_step (g_getR (iRow iCX11_repair_0 12 rfl) f11_82 ko_12 (r_12_8 _ _)) ?_
          refine s_step (g_getI (iRow iCX11_repair_0 13 rfl) f11_150 ko_5) ?_
          refine s_cl (sf := fun x => vI x :: []) (fun _ _ h => h_S (As := [_]) (iRow iCX11_repair_0 14 rfl) l11_274 iJ6_bitCount_0f7a4 rfl rfl (t_J6_bitCount_0f7a4 (d + 6) h) rfl (by omega) (by decide) (Nat.le_of_ble_eq_true rfl)) (fun x2 M1 => ?_)
          refine s_step (g_iload_n (iRow iCX11_repair_0 15 rfl) rfl rfl) ?_
          refine s_if (g_icmp_ge (tgt := 35) (iRow iCX11_repair_0 16 rfl) (by decide)) (fun _ => ?_) (fun _ => ?_)
          · refine s_step (g_aload_n (iRow iCX11_repair_0 19 rfl) rfl rfl) ?_
            refine s_step (g_getR (iRow iCX11_repair_0 20 rfl) f11_75 ko_12 (r_12_5 _ _)) ?_
            refine s_step (g_aload_n (iRow iCX11_repair_0 21 rfl) rfl rfl) ?_
            refine s_step (g_getR (iRow iCX11_repair_0 22 rfl) f11_10 ko_12 (r_12_6 _ _)) ?_
            refine s_step (g_aload_n (iRow iCX11_repair_0 23 rfl) rfl rfl) ?_
            refine s_step (g_getR (iRow iCX11_repair_1 0 rfl) f11_82 ko_12 (r_12_8 _ _)) ?_
            refine s_step (g_iload_n (iRow iCX11_repair_1 1 rfl) rfl rfl) ?_
            refine s_cv (stA := []) (fun _ h => h_V (As := [_, _, _]) (iRow iCX11_repair_1 2 rfl) l11_279 iX7_findRow ko_8 rfl rfl rfl rfl (t_X7_findRow (d + 0) h) rfl (by omega) (by decide) (Nat.le_of_ble_eq_true rfl)) (fun M3 => ?_)
            refine s_step (g_iload_n (iRow iCX11_repair_1 3 rfl) rfl rfl) ?_
            refine s_ifn (g_if_ne (tgt := 65) (iRow iCX11_repair_1 4 rfl) (by decide)) (fun _ => ?_) (fun _ => ?_)
            · refine s_step (g_aload_n (iRow iCX11_repair_1 5 rfl) rfl rfl) ?_
              refine s_step (g_getR (iRow iCX11_repair_1 6 rfl) f11_75 ko_12 (r_12_5 _ _)) ?_
              refine s_step (g_getI (iRow iCX11_repair_1 7 rfl) f11_283 ko_8) ?_
              refine s_step (g_goto (tgt := 76) (iRow iCX11_repair_1 8 rfl) (by decide)) ?_
              exact s_reti (iRow iCX11_repair_1 16 rfl) rfl
            · refine s_step (g_aload_n (iRow iCX11_repair_1 9 rfl) rfl rfl) ?_
              refine s_step (g_getR (iRow iCX11_repair_1 10 rfl) f11_75 ko_12 (r_12_5 _ _)) ?_
              refine s_step (g_getR (iRow iCX11_repair_1 11 rfl) f11_286 ko_8 (r_8_4 _ _)) ?_
              refine s_step (g_iload_n (iRow iCX11_repair_1 12 rfl) rfl rfl) ?_
              refine s_step (g_iconst (iRow iCX11_repair_1 13 rfl) kc_1) ?_
              refine s_step (g_isub (iRow iCX11_repair_1 14 rfl)) ?_
              refine s_gi (fun h => g_iald (iRow iCX11_repair_1 15 rfl) kn_44 ka_44 h) ?_
              exact s_reti (iRow iCX11_repair_1 16 rfl) rfl
          · refine s_step (g_iconst (iRow iCX11_repair_0 17 rfl) kc_m1) ?_
            exact s_reti (iRow iCX11_repair_0 18 rfl) rfl
abbrev YX11_hear : mY := (RX11, "hear", cX11_hear, 3, (some .boolean), none)
set_option maxHeartbeats 400000 in
set_option maxRecDepth 20000 in
theorem t_X11_hear {G : mg} {F : Nat} {a1 : Int32} {a2 : Int32} {M : mm} {x : Bool} {M' : mm} (d : Nat) (h : m_X11_hear F a1 a2 M = some (x, M')) : CM G yX11_hear cX11_hear 3 (some .boolean) (d + 1) [vR 12 0, vI a1, vI a2] M (some (vI (bI x))) M' := by
  refine ct_z (ls := [some (vR 12 0), some (vI a1), some (vI a2)]) rfl rfl (Nat.le_of_ble_eq_true rfl) (fun Z => ?_) h
  show SW G (d + 1) YX11_hear Z 0 [some (vR 12 0), some (vI a1), some (vI a2)] [] M _ _
  unfold m_X11_hear
  refine s_step (g_aload_n (iRow iCX11_hear_0 0 rfl) rfl rfl) ?_
  refine s_step (g_getR (iRow iCX11_hear_0 1 rfl) f11_10 ko_12 (r_12_6 _ _)) ?_
  refine s_step (g_iload_n (iRow iCX11_hear_0 2 rfl) rfl rfl) ?_
  refine s_cb (sf := fun b => vI (bI b) :: []) (fun _ _ h => h_V (As := [_]) (iRow iCX11_hear_0 3 rfl) l11_179 iX0_hasStone ko_1 rfl rfl rfl rfl (t_X0_hasStone (d + 0) h) rfl (by omega) (by decide) (Nat.le_of_ble_eq_true rfl)) (fun b2 M1 => ?_)
  refine s_ifeqb (g_if_eq (tgt := 23) (iRow iCX11_hear_0 4 rfl) (by decide)) (fun _ => ?_) (fun _ => ?_)
  · refine s_step (g_aload_n (iRow iCX11_hear_0 5 rfl) rfl rfl) ?_
    refine s_step (g_getR (iRow iCX11_hear_0 6 rfl) f11_22 ko_12 (r_12_10 _ _)) ?_
    refine s_step (g_getI (iRow iCX11_hear_0 7 rfl) f11_289 ko_9) ?_
    refine s_step (g_bipush (iRow iCX11_hear_0 8 rfl) kb_10) ?_
    refine s_if (g_icmp_lt (tgt := 25) (iRow iCX11_hear_0 9 rfl) (by decide)) (fun _ => ?_) (fun _ => ?_)
    · refine s_step (g_aload_n (iRow iCX11_hear_0 12 rfl) rfl rfl) ?_
      refine s_step (g_getR (iRow iCX11_hear_0 13 rfl) f11_22 ko_12 (r_12_10 _ _)) ?_
      refine s_step (g_dup (iRow iCX11_hear_0 14 rfl) rfl) ?_
      refine s_step (g_getI (iRow iCX11_hear_0 15 rfl) f11_289 ko_9) ?_
      refine s_step (g_iconst (iRow iCX11_hear_0 16 rfl) kc_1) ?_
      refine s_step (g_iadd (iRow iCX11_hear_0 17 rfl)) ?_
      refine s_step (g_putI (iRow iCX11_hear_0 18 rfl) f11_289 (Or.inl rfl) ko_9) ?_
      refine s_nmM (fun M3 => ?_)
      refine s_step (g_iload_n (iRow iCX11_hear_0 19 rfl) rfl rfl) ?_
      refine s_if (g_if_eq (tgt := 60) (iRow iCX11_hear_0 20 rfl) (by decide)) (fun _ => ?_) (fun _ => ?_)
      · refine s_step (g_aload_n (iRow iCX11_hear_1 7 rfl) rfl rfl) ?_
        refine s_step (g_getR (iRow iCX11_hear_1 8 rfl) f11_22 ko_12 (r_12_10 _ _)) ?_
        refine s_step (g_dup (iRow iCX11_hear_1 9 rfl) rfl) ?_
        refine s_step (g_getI (iRow iCX11_hear_1 10 rfl) f11_295 ko_9) ?_
        refine s_step (g_iconst (iRow iCX11_hear_1 11 rfl) kc_1) ?_
        refine s_step (g_iload_n (iRow iCX11_hear_1 12 rfl) rfl rfl) ?_
        refine s_step (g_ishl (iRow iCX11_hear_1 13 rfl)) ?_
        refine s_step (g_ior (iRow iCX11_hear_1 14 rfl)) ?_
        refine s_step (g_putI (iRow iCX11_hear_1 15 rfl) f11_295 (Or.inl rfl) ko_9) ?_
        refine s_nmM (fun M4 => ?_)
        refine s_step (g_iconst (iRow iCX11_hear_1 16 rfl) kc_1) ?_
        exact s_retz (b := true) (iRow iCX11_hear_1 17 rfl) rfl rfl
      · refine s_step (g_aload_n (iRow iCX11_hear_0 21 rfl) rfl rfl) ?_
        refine s_step (g_getR (iRow iCX11_hear_0 22 rfl) f11_22 ko_12 (r_12_10 _ _)) ?_
        refine s_step (g_dup (iRow iCX11_hear_0 23 rfl) rfl) ?_
        refine s_step (g_getI (iRow iCX11_hear_1 0 rfl) f11_292 ko_9) ?_
        refine s_step (g_iconst (iRow iCX11_hear_1 1 rfl) kc_1) ?_
        refine s_step (g_iload_n (iRow iCX11_hear_1 2 rfl) rfl rfl) ?_
        refine s_step (g_ishl (iRow iCX11_hear_1 3 rfl)) ?_
        refine s_step (g_ior (iRow iCX11_hear_1 4 rfl)) ?_
        refine s_step (g_putI (iRow iCX11_hear_1 5 rfl) f11_292 (Or.inl rfl) ko_9) ?_
        refine s_nmM (fun M5 => ?_)
        refine s_step (g_goto (tgt := 75) (iRow iCX11_hear_1 6 rfl) (by decide)) ?_
        refine s_step (g_iconst (iRow iCX11_hear_1 16 rfl) kc_1) ?_
        exact s_retz (b := true) (iRow iCX11_hear_1 17 rfl) rfl rfl
    · refine s_step (g_iconst (iRow iCX11_hear_0 10 rfl) kc_0) ?_
      exact s_retz (b := false) (iRow iCX11_hear_0 11 rfl) rfl rfl
  · refine s_step (g_iconst (iRow iCX11_hear_0 10 rfl) kc_0) ?_
    exact s_retz (b := false) (iRow iCX11_hear_0 11 rfl) rfl rfl
abbrev YX8_agrees : mY := (RX8, "agrees", cX8_agrees, 2, (some .boolean), none)
set_option maxHeartbeats 400000 in
set_option maxRecDepth 20000 in
theorem t_X8_agrees {G : mg} {F : Nat} {o : Nat} {a1 : Int32} {M : mm} {x : Bool} {M' : mm} (d : Nat) (h : m_X8_agrees F o a1 M = some (x, M')) : CM G yX8_agrees cX8_agrees 2 (some .boolean) (d + 0) [vR 9 o, vI a1] M (some (vI (bI x))) M' := by
  refine ct_z (ls := [some (vR 9 o), some (vI a1)]) rfl rfl (Nat.le_of_ble_eq_true rfl) (fun Z => ?_) h
  show SW G (d + 0) YX8_agrees Z 0 [some (vR 9 o), some (vI a1)] [] M _ _
  unfold m_X8_agrees
  refine s_step (g_aload_n (iRow iCX8_agrees_0 0 rfl) rfl rfl) ?_
  refine s_step (g_getI (iRow iCX8_agrees_0 1 rfl) f8_25 ko_9) ?_
  refine s_step (g_iload_n (iRow iCX8_agrees_0 2 rfl) rfl rfl) ?_
  refine s_step (g_iconst (iRow iCX8_agrees_0 3 rfl) kc_m1) ?_
  refine s_step (g_ixor (iRow iCX8_agrees_0 4 rfl)) ?_
  refine s_step (g_iand (iRow iCX8_agrees_0 5 rfl)) ?_
  refine s_ifn (g_if_ne (tgt := 24) (iRow iCX8_agrees_0 6 rfl) (by decide)) (fun _ => ?_) (fun _ => ?_)
  · refine s_step (g_aload_n (iRow iCX8_agrees_0 7 rfl) rfl rfl) ?_
    refine s_step (g_getI (iRow iCX8_agrees_0 8 rfl) f8_28 ko_9) ?_
    refine s_step (g_iload_n (iRow iCX8_agrees_0 9 rfl) rfl rfl) ?_
    refine s_step (g_iand (iRow iCX8_agrees_0 10 rfl)) ?_
    refine s_ifn (g_if_ne (tgt := 24) (iRow iCX8_agrees_0 11 rfl) (by decide)) (fun _ => ?_) (fun _ => ?_)
    · refine s_step (g_iconst (iRow iCX8_agrees_0 12 rfl) kc_1) ?_
      refine s_step (g_goto (tgt := 25) (iRow iCX8_agrees_0 13 rfl) (by decide)) ?_
      exact s_retz (b := true) (iRow iCX8_agrees_0 15 rfl) rfl rfl
    · refine s_step (g_iconst (iRow iCX8_agrees_0 14 rfl) kc_0) ?_
      exact s_retz (b := false) (iRow iCX8_agrees_0 15 rfl) rfl rfl
  · refine s_step (g_iconst (iRow iCX8_agrees_0 14 rfl) kc_0) ?_
    exact s_retz (b := false) (iRow iCX8_agrees_0 15 rfl) rfl rfl
abbrev YX10_addSet : mY := (RX10, "addSet", cX10_addSet, 3, none, none)
set_option maxHeartbeats 400000 in
set_option maxRecDepth 20000 in
theorem t_X10_addSet {G : mg} {F : Nat} {a1 : Int32} {M : mm} {M' : mm} (d : Nat) (h : m_X10_addSet F a1 M = some M') : CM G yX10_addSet cX10_addSet 3 none (d + 5) [vR 11 0, vI a1] M none M' := by
  refine ct_v (ls := [some (vR 11 0), some (vI a1), none]) rfl rfl (Nat.le_of_ble_eq_true rfl) (fun Z => ?_) h
  show SW G (d + 5) YX10_addSet Z 0 [some (vR 11 0), some (vI a1), none] [] M _ _
  unfold m_X10_addSet
  refine s_step (g_aload_n (iRow iCX10_addSet_0 0 rfl) rfl rfl) ?_
  refine s_step (g_dup (iRow iCX10_addSet_0 1 rfl) rfl) ?_
  refine s_step (g_getI (iRow iCX10_addSet_0 2 rfl) f10_143 ko_11) ?_
  refine s_step (g_iconst (iRow iCX10_addSet_0 3 rfl) kc_1) ?_
  refine s_step (g_iadd (iRow iCX10_addSet_0 4 rfl)) ?_
  refine s_step (g_putI (iRow iCX10_addSet_0 5 rfl) f10_143 (Or.inl rfl) ko_11) ?_
  refine s_nmM (fun M1 => ?_)
  refine s_step (g_aload_n (iRow iCX10_addSet_0 6 rfl) rfl rfl) ?_
  refine s_step (g_dup (iRow iCX10_addSet_0 7 rfl) rfl) ?_
  refine s_step (g_getI (iRow iCX10_addSet_0 8 rfl) f10_146 ko_11) ?_
  refine s_step (g_iload_n (iRow iCX10_addSet_0 9 rfl) rfl rfl) ?_
  refine s_step (g_iand (iRow iCX10_addSet_0 10 rfl)) ?_
  refine s_step (g_putI (iRow iCX10_addSet_0 11 rfl) f10_146 (Or.inl rfl) ko_11) ?_
  refine s_nmM (fun M2 => ?_)
  refine s_step (g_aload_n (iRow iCX10_addSet_0 12 rfl) rfl rfl) ?_
  refine s_step (g_dup (iRow iCX10_addSet_0 13 rfl) rfl) ?_
  refine s_step (g_getI (iRow iCX10_addSet_0 14 rfl) f10_149 ko_11) ?_
  refine s_step (g_iload_n (iRow iCX10_addSet_0 15 rfl) rfl rfl) ?_
  refine s_step (g_ior (iRow iCX10_addSet_0 16 rfl)) ?_
  refine s_step (g_putI (iRow iCX10_addSet_0 17 rfl) f10_149 (Or.inl rfl) ko_11) ?_
  refine s_nmM (fun M3 => ?_)
  refine s_step (g_iconst (iRow iCX10_addSet_0 18 rfl) kc_0) ?_
  refine s_step (g_istore_n (ls' := [some (vR 11 0), some (vI a1), some (vI (0 : Int32))]) (iRow iCX10_addSet_0 19 rfl) rfl (by decide) rfl) ?_
  refine s_lp (fun z => [some (vR 11 0), some (vI a1), some (vI (z.1))]) (fun z => z.2) (fun z => LM G (d + 5) YX10_addSet Z 67 [none, none, none] [] z) rfl rfl ?_ ?_
  · rintro ⟨x4, M5⟩
    show SW G (d + 5) YX10_addSet Z 32 [some (vR 11 0), some (vI a1), some (vI x4)] [] M5 (b_X10_addSet_1c F a1 x4 M5) _
    unfold b_X10_addSet_1c
    refine s_step (g_iload_n (iRow iCX10_addSet_0 20 rfl) rfl rfl) ?_
    refine s_step (g_aload_n (iRow iCX10_addSet_0 21 rfl) rfl rfl) ?_
    refine s_step (g_getR (iRow iCX10_addSet_0 22 rfl) f10_41 ko_11 (r_11_1 _ _)) ?_
    refine s_step (g_getI (iRow iCX10_addSet_0 23 rfl) f10_160 ko_1) ?_
    refine s_if (g_icmp_ge (tgt := 67) (iRow iCX10_addSet_1 0 rfl) (by decide)) (fun _ => ?_) (fun _ => ?_)
    · refine s_step (g_keep [false, false, false] rfl) ?_
      exact s_end (fun h => h)
    · refine s_step (g_aload_n (iRow iCX10_addSet_1 1 rfl) rfl rfl) ?_
      refine s_step (g_getR (iRow iCX10_addSet_1 2 rfl) f10_31 ko_11 (r_11_15 _ _)) ?_
      refine s_step (g_iload_n (iRow iCX10_addSet_1 3 rfl) rfl rfl) ?_
      refine s_step (g_dup2 (iRow iCX10_addSet_1 4 rfl) rfl rfl) ?_
      refine s_gi (fun h => g_iald (iRow iCX10_addSet_1 5 rfl) kn_58 ka_58 h) ?_
      refine s_step (g_aload_n (iRow iCX10_addSet_1 6 rfl) rfl rfl) ?_
      refine s_step (g_iload_n (iRow iCX10_addSet_1 7 rfl) rfl rfl) ?_
      refine s_cl (sf := fun x => vI x :: [vI (M5.1 58 0 (Int32.toNatClampNeg x4)), vI x4, vR 58 0]) (fun _ _ h => h_V (As := [_]) (iRow iCX10_addSet_1 8 rfl) l10_94 iX10_upIf ko_11 rfl rfl rfl rfl (t_X10_upIf (d + 0) h) rfl (by omega) (by decide) (Nat.le_of_ble_eq_true rfl)) (fun x7 M6 => ?_)
      refine s_step (g_iload_n (iRow iCX10_addSet_1 9 rfl) rfl rfl) ?_
      refine s_step (g_ishr (iRow iCX10_addSet_1 10 rfl)) ?_
      refine s_step (g_iconst (iRow iCX10_addSet_1 11 rfl) kc_1) ?_
      refine s_step (g_iand (iRow iCX10_addSet_1 12 rfl)) ?_
      refine s_step (g_iadd (iRow iCX10_addSet_1 13 rfl)) ?_
      refine s_gi (fun h => g_iast (iRow iCX10_addSet_1 14 rfl) kn_58 ka_58 h) ?_
      refine s_nmM (fun M8 => ?_)
      refine s_step (g_iincc (c := 1) (ls' := [some (vR 11 0), some (vI a1), some (vI (x4 + (1 : Int32)))]) (iRow iCX10_addSet_1 15 rfl) rfl kc_1 (by decide) rfl) ?_
      refine s_step (g_goto (tgt := 32) (iRow iCX10_addSet_1 16 rfl) (by decide)) ?_
      exact s_end (fun h => h)
  · rintro M9
    show SW G (d + 5) YX10_addSet Z 67 [none, none, none] [] M9 _ _
    try dsimp only
    exact s_retv (iRow iCX10_addSet_1 17 rfl) rfl
abbrev YX10_findSets : mY := (RX10, "findSets", cX10_findSets, 4, none, none)
set_option maxHeartbeats 400000 in
set_option maxRecDepth 20000 in
theorem t_X10_findSets {G : mg} {F : Nat} {a1 : Nat} {a2 : Int32} {M : mm} {M' : mm} (d : Nat) (h : m_X10_findSets F a1 a2 M = some M') : CM G yX10_findSets cX10_findSets 4 none (d + 6) [vR 11 0, vR 9 a1, vI a2] M none M' := by
  refine ct_v (ls := [some (vR 11 0), some (vR 9 a1), some (vI a2), none]) rfl rfl (Nat.le_of_ble_eq_true rfl) (fun Z => ?_) h
  show SW G (d + 6) YX10_findSets Z 0 [some (vR 11 0), some (vR 9 a1), some (vI a2), none] [] M _ _
  unfold m_X10_findSets
  refine s_step (g_aload_n (iRow iCX10_findSets_0 0 rfl) rfl rfl) ?_
  refine s_step (g_iconst (iRow iCX10_findSets_0 1 rfl) kc_0) ?_
  refine s_step (g_putI (iRow iCX10_findSets_0 2 rfl) f10_143 (Or.inl rfl) ko_11) ?_
  refine s_nmM (fun M1 => ?_)
  refine s_step (g_aload_n (iRow iCX10_findSets_0 3 rfl) rfl rfl) ?_
  refine s_step (g_aload_n (iRow iCX10_findSets_0 4 rfl) rfl rfl) ?_
  refine s_step (g_getI (iRow iCX10_findSets_0 5 rfl) f10_72 ko_11) ?_
  refine s_step (g_putI (iRow iCX10_findSets_0 6 rfl) f10_146 (Or.inl rfl) ko_11) ?_
  refine s_nmM (fun M2 => ?_)
  refine s_step (g_aload_n (iRow iCX10_findSets_0 7 rfl) rfl rfl) ?_
  refine s_step (g_iconst (iRow iCX10_findSets_0 8 rfl) kc_0) ?_
  refine s_step (g_putI (iRow iCX10_findSets_0 9 rfl) f10_149 (Or.inl rfl) ko_11) ?_
  refine s_nmM (fun M3 => ?_)
  refine s_step (g_iconst (iRow iCX10_findSets_0 10 rfl) kc_0) ?_
  refine s_step (g_istore_n (ls' := [some (vR 11 0), some (vR 9 a1), some (vI a2), some (vI (0 : Int32))]) (iRow iCX10_findSets_0 11 rfl) rfl (by decide) rfl) ?_
  refine s_lp (fun z => [some (vR 11 0), some (vR 9 a1), some (vI a2), some (vI (z.1))]) (fun z => z.2) (fun z => LM G (d + 6) YX10_findSets Z 39 [some (vR 11 0), some (vR 9 a1), some (vI a2), none] [] z) rfl rfl ?_ ?_
  · rintro ⟨x4, M5⟩
    show SW G (d + 6) YX10_findSets Z 20 [some (vR 11 0), some (vR 9 a1), some (vI a2), some (vI x4)] [] M5 (b_X10_findSets_1c F x4 M5) _
    unfold b_X10_findSets_1c
    refine s_step (g_iload_n (iRow iCX10_findSets_0 12 rfl) rfl rfl) ?_
    refine s_step (g_bipush (iRow iCX10_findSets_0 13 rfl) kb_10) ?_
    refine s_if (g_icmp_ge (tgt := 39) (iRow iCX10_findSets_0 14 rfl) (by decide)) (fun _ => ?_) (fun _ => ?_)
    · refine s_step (g_keep [true, true, true, false] rfl) ?_
      exact s_end (fun h => h)
    · refine s_step (g_aload_n (iRow iCX10_findSets_0 15 rfl) rfl rfl) ?_
      refine s_step (g_getR (iRow iCX10_findSets_0 16 rfl) f10_31 ko_11 (r_11_15 _ _)) ?_
      refine s_step (g_iload_n (iRow iCX10_findSets_0 17 rfl) rfl rfl) ?_
      refine s_step (g_iconst (iRow iCX10_findSets_0 18 rfl) kc_0) ?_
      refine s_gi (fun h => g_iast (iRow iCX10_findSets_0 19 rfl) kn_58 ka_58 h) ?_
      refine s_nmM (fun M6 => ?_)
      refine s_step (g_iincc (c := 1) (ls' := [some (vR 11 0), some (vR 9 a1), some (vI a2), some (vI (x4 + (1 : Int32)))]) (iRow iCX10_findSets_0 20 rfl) rfl kc_1 (by decide) rfl) ?_
      refine s_step (g_goto (tgt := 20) (iRow iCX10_findSets_0 21 rfl) (by decide)) ?_
      exact s_end (fun h => h)
  · rintro M7
    show SW G (d + 6) YX10_findSets Z 39 [some (vR 11 0), some (vR 9 a1), some (vI a2), none] [] M7 _ _
    try dsimp only
    refine s_step (g_iconst (iRow iCX10_findSets_0 22 rfl) kc_0) ?_
    refine s_step (g_istore_n (ls' := [some (vR 11 0), some (vR 9 a1), some (vI a2), some (vI (0 : Int32))]) (iRow iCX10_findSets_0 23 rfl) rfl (by decide) rfl) ?_
    refine s_lp (fun z => [some (vR 11 0), some (vR 9 a1), some (vI a2), some (vI (z.1))]) (fun z => z.2) (fun z => LM G (d + 6) YX10_findSets Z 93 [none, none, none, none] [] z) rfl rfl ?_ ?_
    · rintro ⟨x8, M9⟩
      show SW G (d + 6) YX10_findSets Z 41 [some (vR 11 0), some (vR 9 a1), some (vI a2), some (vI x8)] [] M9 (b_X10_findSets_2c F a1 a2 x8 M9) _
      unfold b_X10_findSets_2c
      refine s_step (g_iload_n (iRow iCX10_findSets_1 0 rfl) rfl rfl) ?_
      refine s_step (g_iconst (iRow iCX10_findSets_1 1 rfl) kc_1) ?_
      refine s_step (g_aload_n (iRow iCX10_findSets_1 2 rfl) rfl rfl) ?_
      refine s_step (g_getR (iRow iCX10_findSets_1 3 rfl) f10_41 ko_11 (r_11_1 _ _)) ?_
      refine s_step (g_getI (iRow iCX10_findSets_1 4 rfl) f10_61 ko_1) ?_
      refine s_step (g_ishl (iRow iCX10_findSets_1 5 rfl)) ?_
      refine s_if (g_icmp_ge (tgt := 93) (iRow iCX10_findSets_1 6 rfl) (by decide)) (fun _ => ?_) (fun _ => ?_)
      · refine s_step (g_keep [false, false, false, false] rfl) ?_
        exact s_end (fun h => h)
      · refine s_step (g_aload_n (iRow iCX10_findSets_1 7 rfl) rfl rfl) ?_
        refine s_step (g_iload_n (iRow iCX10_findSets_1 8 rfl) rfl rfl) ?_
        refine s_cb (sf := fun b => vI (bI b) :: []) (fun _ _ h => h_V (As := [_]) (iRow iCX10_findSets_1 9 rfl) l10_84 iX10_canBreak ko_11 rfl rfl rfl rfl (t_X10_canBreak (d + 5) h) rfl (by omega) (by decide) (Nat.le_of_ble_eq_true rfl)) (fun b11 M10 => ?_)
        refine s_bd (fun z => LM G (d + 6) YX10_findSets Z 87 [some (vR 11 0), some (vR 9 a1), some (vI a2), some (vI x8)] [] z) ?_ ?_
        · refine s_ifeqb (g_if_eq (tgt := 87) (iRow iCX10_findSets_1 10 rfl) (by decide)) (fun _ => ?_) (fun _ => ?_)
          · refine s_step (g_iload_n (iRow iCX10_findSets_1 11 rfl) rfl rfl) ?_
            refine s_cl (sf := fun x => vI x :: []) (fun _ _ h => h_S (As := [_]) (iRow iCX10_findSets_1 12 rfl) l10_88 iJ6_bitCount_0f7a4 rfl rfl (t_J6_bitCount_0f7a4 (d + 5) h) rfl (by omega) (by decide) (Nat.le_of_ble_eq_true rfl)) (fun x13 M12 => ?_)
            refine s_step (g_iload_n (iRow iCX10_findSets_1 13 rfl) rfl rfl) ?_
            refine s_if (g_icmp_gt (tgt := 87) (iRow iCX10_findSets_1 14 rfl) (by decide)) (fun _ => ?_) (fun _ => ?_)
            · exact s_end (fun h => h)
            · refine s_step (g_aload_n (iRow iCX10_findSets_1 15 rfl) rfl rfl) ?_
              refine s_step (g_aload_n (iRow iCX10_findSets_1 16 rfl) rfl rfl) ?_
              refine s_step (g_iload_n (iRow iCX10_findSets_1 17 rfl) rfl rfl) ?_
              refine s_cl (sf := fun x => vI x :: [vR 9 a1]) (fun _ _ h => h_V (As := [_]) (iRow iCX10_findSets_1 18 rfl) l10_94 iX10_upIf ko_11 rfl rfl rfl rfl (t_X10_upIf (d + 1) h) rfl (by omega) (by decide) (Nat.le_of_ble_eq_true rfl)) (fun x15 M14 => ?_)
              refine s_cb (sf := fun b => vI (bI b) :: []) (fun _ _ h => h_V (As := [_]) (iRow iCX10_findSets_1 19 rfl) l10_152 iX8_agrees ko_9 rfl rfl rfl rfl (t_X8_agrees (d + 5) h) rfl (by omega) (by decide) (Nat.le_of_ble_eq_true rfl)) (fun b17 M16 => ?_)
              refine s_ifeqb (g_if_eq (tgt := 87) (iRow iCX10_findSets_1 20 rfl) (by decide)) (fun _ => ?_) (fun _ => ?_)
              · refine s_step (g_aload_n (iRow iCX10_findSets_1 21 rfl) rfl rfl) ?_
                refine s_step (g_iload_n (iRow iCX10_findSets_1 22 rfl) rfl rfl) ?_
                refine s_cv (stA := []) (fun _ h => h_V (As := [_]) (iRow iCX10_findSets_1 23 rfl) l10_157 iX10_addSet ko_11 rfl rfl rfl rfl (t_X10_addSet (d + 0) h) rfl (by omega) (by decide) (Nat.le_of_ble_eq_true rfl)) (fun M18 => ?_)
                exact s_end (fun h => h)
              · exact s_end (fun h => h)
          · exact s_end (fun h => h)
        · rintro M19
          show SW G (d + 6) YX10_findSets Z 87 [some (vR 11 0), some (vR 9 a1), some (vI a2), some (vI x8)] [] M19 _ _
          try dsimp only
          refine s_step (g_iincc (c := 1) (ls' := [some (vR 11 0), some (vR 9 a1), some (vI a2), some (vI (x8 + (1 : Int32)))]) (iRow iCX10_findSets_2 0 rfl) rfl kc_1 (by decide) rfl) ?_
          refine s_step (g_goto (tgt := 41) (iRow iCX10_findSets_2 1 rfl) (by decide)) ?_
          exact s_end (fun h => h)
    · rintro M20
      show SW G (d + 6) YX10_findSets Z 93 [none, none, none, none] [] M20 _ _
      try dsimp only
      exact s_retv (iRow iCX10_findSets_2 2 rfl) rfl
abbrev YX10_evenestStone : mY := (RX10, "evenestStone", cX10_evenestStone, 5, (some .int), none)
set_option maxHeartbeats 400000 in
set_option maxRecDepth 20000 in
theorem t_X10_evenestStone {G : mg} {F : Nat} {M : mm} {x : Int32} {M' : mm} (d : Nat) (h : m_X10_evenestStone F M = some (x, M')) : CM G yX10_evenestStone cX10_evenestStone 5 (some .int) (d + 0) [vR 11 0] M (some (vI x)) M' := by
  refine ct_i (ls := [some (vR 11 0), none, none, none, none]) rfl rfl (Nat.le_of_ble_eq_true rfl) (fun Z => ?_) h
  show SW G (d + 0) YX10_evenestStone Z 0 [some (vR 11 0), none, none, none, none] [] M _ _
  unfold m_X10_evenestStone
  refine s_step (g_iconst (iRow iCX10_evenestStone_0 0 rfl) kc_m1) ?_
  refine s_step (g_istore_n (ls' := [some (vR 11 0), some (vI (-1 : Int32)), none, none, none]) (iRow iCX10_evenestStone_0 1 rfl) rfl (by decide) rfl) ?_
  refine s_step (g_iconst (iRow iCX10_evenestStone_0 2 rfl) kc_0) ?_
  refine s_step (g_istore_n (ls' := [some (vR 11 0), some (vI (-1 : Int32)), some (vI (0 : Int32)), none, none]) (iRow iCX10_evenestStone_0 3 rfl) rfl (by decide) rfl) ?_
  refine s_step (g_iconst (iRow iCX10_evenestStone_0 4 rfl) kc_0) ?_
  refine s_step (g_istore_n (ls' := [some (vR 11 0), some (vI (-1 : Int32)), some (vI (0 : Int32)), some (vI (0 : Int32)), none]) (iRow iCX10_evenestStone_0 5 rfl) rfl (by decide) rfl) ?_
  refine s_lp (fun z => [some (vR 11 0), some (vI (z.1)), some (vI (z.2.1)), some (vI (z.2.2)), none]) (fun _ => M) (fun z => LM G (d + 0) YX10_evenestStone Z 76 [none, some (vI z), none, none, none] [] M) rfl rfl ?_ ?_
  · rintro ⟨x1, x2, x3⟩
    show SW G (d + 0) YX10_evenestStone Z 6 [some (vR 11 0), some (vI x1), some (vI x2), some (vI x3), none] [] M (b_X10_evenestStone_1c F M x1 x2 x3) _
    unfold b_X10_evenestStone_1c
    refine s_step (g_iload_n (iRow iCX10_evenestStone_0 6 rfl) rfl rfl) ?_
    refine s_step (g_aload_n (iRow iCX10_evenestStone_0 7 rfl) rfl rfl) ?_
    refine s_step (g_getR (iRow iCX10_evenestStone_0 8 rfl) f10_41 ko_11 (r_11_1 _ _)) ?_
    refine s_step (g_getI (iRow iCX10_evenestStone_0 9 rfl) f10_160 ko_1) ?_
    refine s_if (g_icmp_ge (tgt := 76) (iRow iCX10_evenestStone_0 10 rfl) (by decide)) (fun _ => ?_) (fun _ => ?_)
    · refine s_step (g_keep [false, true, false, false, false] rfl) ?_
      exact s_end (fun h => h)
    · refine s_step (g_aload_n (iRow iCX10_evenestStone_0 11 rfl) rfl rfl) ?_
      refine s_step (g_getR (iRow iCX10_evenestStone_0 12 rfl) f10_31 ko_11 (r_11_15 _ _)) ?_
      refine s_step (g_iload_n (iRow iCX10_evenestStone_0 13 rfl) rfl rfl) ?_
      refine s_gi (fun h => g_iald (iRow iCX10_evenestStone_0 14 rfl) kn_58 ka_58 h) ?_
      refine s_step (g_aload_n (iRow iCX10_evenestStone_0 15 rfl) rfl rfl) ?_
      refine s_step (g_getI (iRow iCX10_evenestStone_0 16 rfl) f10_143 ko_11) ?_
      refine s_step (g_aload_n (iRow iCX10_evenestStone_0 17 rfl) rfl rfl) ?_
      refine s_step (g_getR (iRow iCX10_evenestStone_0 18 rfl) f10_31 ko_11 (r_11_15 _ _)) ?_
      refine s_step (g_iload_n (iRow iCX10_evenestStone_0 19 rfl) rfl rfl) ?_
      refine s_gi (fun h => g_iald (iRow iCX10_evenestStone_0 20 rfl) kn_58 ka_58 h) ?_
      refine s_step (g_isub (iRow iCX10_evenestStone_0 21 rfl)) ?_
      refine s_bd (fun z => LM G (d + 0) YX10_evenestStone Z 57 [some (vR 11 0), some (vI x1), some (vI x2), some (vI x3), none] [vI z] M) ?_ ?_
      · refine s_if (g_icmp_ge (tgt := 46) (iRow iCX10_evenestStone_0 22 rfl) (by decide)) (fun _ => ?_) (fun _ => ?_)
        · refine s_step (g_aload_n (iRow iCX10_evenestStone_1 4 rfl) rfl rfl) ?_
          refine s_step (g_getI (iRow iCX10_evenestStone_1 5 rfl) f10_143 ko_11) ?_
          refine s_step (g_aload_n (iRow iCX10_evenestStone_1 6 rfl) rfl rfl) ?_
          refine s_step (g_getR (iRow iCX10_evenestStone_1 7 rfl) f10_31 ko_11 (r_11_15 _ _)) ?_
          refine s_step (g_iload_n (iRow iCX10_evenestStone_1 8 rfl) rfl rfl) ?_
          refine s_gi (fun h => g_iald (iRow iCX10_evenestStone_1 9 rfl) kn_58 ka_58 h) ?_
          refine s_step (g_isub (iRow iCX10_evenestStone_1 10 rfl)) ?_
          exact s_end (fun h => h)
        · refine s_step (g_aload_n (iRow iCX10_evenestStone_0 23 rfl) rfl rfl) ?_
          refine s_step (g_getR (iRow iCX10_evenestStone_1 0 rfl) f10_31 ko_11 (r_11_15 _ _)) ?_
          refine s_step (g_iload_n (iRow iCX10_evenestStone_1 1 rfl) rfl rfl) ?_
          refine s_gi (fun h => g_iald (iRow iCX10_evenestStone_1 2 rfl) kn_58 ka_58 h) ?_
          refine s_step (g_goto (tgt := 57) (iRow iCX10_evenestStone_1 3 rfl) (by decide)) ?_
          exact s_end (fun h => h)
      · rintro x4
        show SW G (d + 0) YX10_evenestStone Z 57 [some (vR 11 0), some (vI x1), some (vI x2), some (vI x3), none] [vI x4] M _ _
        try dsimp only
        refine s_step (g_istore (ls' := [some (vR 11 0), some (vI x1), some (vI x2), some (vI x3), some (vI x4)]) (iRow iCX10_evenestStone_1 11 rfl) (by decide) rfl) ?_
        refine s_step (g_iload (iRow iCX10_evenestStone_1 12 rfl) rfl) ?_
        refine s_step (g_iload_n (iRow iCX10_evenestStone_1 13 rfl) rfl rfl) ?_
        refine s_bd (fun z => LM G (d + 0) YX10_evenestStone Z 70 [some (vR 11 0), some (vI (z.1)), some (vI (z.2)), some (vI x3), none] [] M) ?_ ?_
        · refine s_if (g_icmp_le (tgt := 70) (iRow iCX10_evenestStone_1 14 rfl) (by decide)) (fun _ => ?_) (fun _ => ?_)
          · refine s_step (g_keep [true, true, true, true, false] rfl) ?_
            exact s_end (fun h => h)
          · refine s_step (g_iload (iRow iCX10_evenestStone_1 15 rfl) rfl) ?_
            refine s_step (g_istore_n (ls' := [some (vR 11 0), some (vI x1), some (vI x4), some (vI x3), some (vI x4)]) (iRow iCX10_evenestStone_1 16 rfl) rfl (by decide) rfl) ?_
            refine s_step (g_iload_n (iRow iCX10_evenestStone_1 17 rfl) rfl rfl) ?_
            refine s_step (g_istore_n (ls' := [some (vR 11 0), some (vI x3), some (vI x4), some (vI x3), some (vI x4)]) (iRow iCX10_evenestStone_1 18 rfl) rfl (by decide) rfl) ?_
            refine s_step (g_keep [true, true, true, true, false] rfl) ?_
            exact s_end (fun h => h)
        · rintro ⟨x5, x6⟩
          show SW G (d + 0) YX10_evenestStone Z 70 [some (vR 11 0), some (vI x5), some (vI x6), some (vI x3), none] [] M _ _
          try dsimp only
          refine s_step (g_iincc (c := 1) (ls' := [some (vR 11 0), some (vI x5), some (vI x6), some (vI (x3 + (1 : Int32))), none]) (iRow iCX10_evenestStone_1 19 rfl) rfl kc_1 (by decide) rfl) ?_
          refine s_step (g_goto (tgt := 6) (iRow iCX10_evenestStone_1 20 rfl) (by decide)) ?_
          exact s_end (fun h => h)
  · rintro x7
    show SW G (d + 0) YX10_evenestStone Z 76 [none, some (vI x7), none, none, none] [] M _ _
    try dsimp only
    refine s_step (g_iload_n (iRow iCX10_evenestStone_1 21 rfl) rfl rfl) ?_
    exact s_reti (iRow iCX10_evenestStone_1 22 rfl) rfl
abbrev YX11_broken : mY := (RX11, "broken", cX11_broken, 3, (some .int), none)
set_option maxHeartbeats 400000 in
set_option maxRecDepth 20000 in
theorem t_X11_broken {G : mg} {F : Nat} {a1 : Int32} {a2 : Int32} {M : mm} {x : Int32} {M' : mm} (d : Nat) (h : m_X11_broken F a1 a2 M = some (x, M')) : CM G yX11_broken cX11_broken 3 (some .int) (d + 7) [vR 12 0, vI a1, vI a2] M (some (vI x)) M' := by
  refine ct_i (ls := [some (vR 12 0), some (vI a1), some (vI a2)]) rfl rfl (Nat.le_of_ble_eq_true rfl) (fun Z => ?_) h
  show SW G (d + 7) YX11_broken Z 0 [some (vR 12 0), some (vI a1), some (vI a2)] [] M _ _
  unfold m_X11_broken
  refine s_step (g_iload_n (iRow iCX11_broken_0 0 rfl) rfl rfl) ?_
  refine s_if (g_if_lt (tgt := 19) (iRow iCX11_broken_0 1 rfl) (by decide)) (fun _ => ?_) (fun _ => ?_)
  · refine s_step (g_iconst (iRow iCX11_broken_0 10 rfl) kc_m1) ?_
    exact s_reti (iRow iCX11_broken_0 11 rfl) rfl
  · refine s_step (g_iload_n (iRow iCX11_broken_0 2 rfl) rfl rfl) ?_
    refine s_step (g_bipush (iRow iCX11_broken_0 3 rfl) kb_10) ?_
    refine s_if (g_icmp_gt (tgt := 19) (iRow iCX11_broken_0 4 rfl) (by decide)) (fun _ => ?_) (fun _ => ?_)
    · refine s_step (g_iconst (iRow iCX11_broken_0 10 rfl) kc_m1) ?_
      exact s_reti (iRow iCX11_broken_0 11 rfl) rfl
    · refine s_step (g_iload_n (iRow iCX11_broken_0 5 rfl) rfl rfl) ?_
      refine s_if (g_if_lt (tgt := 19) (iRow iCX11_broken_0 6 rfl) (by decide)) (fun _ => ?_) (fun _ => ?_)
      · refine s_step (g_iconst (iRow iCX11_broken_0 10 rfl) kc_m1) ?_
        exact s_reti (iRow iCX11_broken_0 11 rfl) rfl
      · refine s_step (g_iload_n (iRow iCX11_broken_0 7 rfl) rfl rfl) ?_
        refine s_step (g_iconst (iRow iCX11_broken_0 8 rfl) kc_3) ?_
        refine s_if (g_icmp_le (tgt := 21) (iRow iCX11_broken_0 9 rfl) (by decide)) (fun _ => ?_) (fun _ => ?_)
        · refine s_step (g_aload_n (iRow iCX11_broken_0 12 rfl) rfl rfl) ?_
          refine s_step (g_getR (iRow iCX11_broken_0 13 rfl) f11_66 ko_12 (r_12_4 _ _)) ?_
          refine s_step (g_aload_n (iRow iCX11_broken_0 14 rfl) rfl rfl) ?_
          refine s_step (g_getR (iRow iCX11_broken_0 15 rfl) f11_10 ko_12 (r_12_6 _ _)) ?_
          refine s_step (g_aload_n (iRow iCX11_broken_0 16 rfl) rfl rfl) ?_
          refine s_step (g_getR (iRow iCX11_broken_0 17 rfl) f11_82 ko_12 (r_12_8 _ _)) ?_
          refine s_cv (stA := []) (fun _ h => h_V (As := [_, _]) (iRow iCX11_broken_0 18 rfl) l11_244 iX10_look ko_11 rfl rfl rfl rfl (t_X10_look (d + 5) h) rfl (by omega) (by decide) (Nat.le_of_ble_eq_true rfl)) (fun M1 => ?_)
          refine s_step (g_aload_n (iRow iCX11_broken_0 19 rfl) rfl rfl) ?_
          refine s_step (g_getR (iRow iCX11_broken_0 20 rfl) f11_66 ko_12 (r_12_4 _ _)) ?_
          refine s_step (g_aload_n (iRow iCX11_broken_0 21 rfl) rfl rfl) ?_
          refine s_step (g_getR (iRow iCX11_broken_0 22 rfl) f11_22 ko_12 (r_12_10 _ _)) ?_
          refine s_step (g_iload_n (iRow iCX11_broken_0 23 rfl) rfl rfl) ?_
          refine s_cv (stA := []) (fun _ h => h_V (As := [_, _]) (iRow iCX11_broken_1 0 rfl) l11_298 iX10_findSets ko_11 rfl rfl rfl rfl (t_X10_findSets (d + 0) h) rfl (by omega) (by decide) (Nat.le_of_ble_eq_true rfl)) (fun M2 => ?_)
          refine s_step (g_aload_n (iRow iCX11_broken_1 1 rfl) rfl rfl) ?_
          refine s_step (g_getR (iRow iCX11_broken_1 2 rfl) f11_66 ko_12 (r_12_4 _ _)) ?_
          refine s_step (g_getI (iRow iCX11_broken_1 3 rfl) f11_302 ko_11) ?_
          refine s_ifn (g_if_ne (tgt := 60) (iRow iCX11_broken_1 4 rfl) (by decide)) (fun _ => ?_) (fun _ => ?_)
          · refine s_step (g_iconst (iRow iCX11_broken_1 5 rfl) kc_m1) ?_
            exact s_reti (iRow iCX11_broken_1 6 rfl) rfl
          · refine s_step (g_iload_n (iRow iCX11_broken_1 7 rfl) rfl rfl) ?_
            refine s_ite (fun hs0 => ?_) (fun hs0 => ?_)
            · refine s_step (g_tableIn (tgt := 88) (off := 27) (iRow iCX11_broken_1 8 rfl) (sw_lo hs0 (by decide)) (sw_hi hs0 (by decide)) (sw_at hs0 (by decide)) (by decide)) ?_
              refine s_step (g_aload_n (iRow iCX11_broken_1 9 rfl) rfl rfl) ?_
              refine s_step (g_getR (iRow iCX11_broken_1 10 rfl) f11_66 ko_12 (r_12_4 _ _)) ?_
              refine s_step (g_getI (iRow iCX11_broken_1 11 rfl) f11_302 ko_11) ?_
              exact s_reti (iRow iCX11_broken_1 12 rfl) rfl
            · refine s_ite (fun hs1 => ?_) (fun hs1 => ?_)
              · refine s_step (g_tableIn (tgt := 96) (off := 35) (iRow iCX11_broken_1 8 rfl) (sw_lo hs1 (by decide)) (sw_hi hs1 (by decide)) (sw_at hs1 (by decide)) (by decide)) ?_
                refine s_step (g_aload_n (iRow iCX11_broken_1 13 rfl) rfl rfl) ?_
                refine s_step (g_getR (iRow iCX11_broken_1 14 rfl) f11_66 ko_12 (r_12_4 _ _)) ?_
                refine s_step (g_getI (iRow iCX11_broken_1 15 rfl) f11_305 ko_11) ?_
                exact s_reti (iRow iCX11_broken_1 16 rfl) rfl
              · refine s_ite (fun hs2 => ?_) (fun hs2 => ?_)
                · refine s_step (g_tableIn (tgt := 104) (off := 43) (iRow iCX11_broken_1 8 rfl) (sw_lo hs2 (by decide)) (sw_hi hs2 (by decide)) (sw_at hs2 (by decide)) (by decide)) ?_
                  refine s_step (g_aload_n (iRow iCX11_broken_1 17 rfl) rfl rfl) ?_
                  refine s_step (g_getR (iRow iCX11_broken_1 18 rfl) f11_66 ko_12 (r_12_4 _ _)) ?_
                  refine s_step (g_getI (iRow iCX11_broken_1 19 rfl) f11_308 ko_11) ?_
                  exact s_reti (iRow iCX11_broken_1 20 rfl) rfl
                · refine s_step (g_tableOut (tgt := 112) (iRow iCX11_broken_1 8 rfl) (sw_out [0, 1, 2] (by decide +kernel) ⟨hs0, hs1, hs2, trivial⟩) (by decide)) ?_
                  refine s_step (g_aload_n (iRow iCX11_broken_1 21 rfl) rfl rfl) ?_
                  refine s_step (g_getR (iRow iCX11_broken_1 22 rfl) f11_66 ko_12 (r_12_4 _ _)) ?_
                  refine s_cl (sf := fun x => vI x :: []) (fun _ _ h => h_V (As := []) (iRow iCX11_broken_1 23 rfl) l11_311 iX10_evenestStone ko_11 rfl rfl rfl rfl (t_X10_evenestStone (d + 6) h) rfl (by omega) (by decide) (Nat.le_of_ble_eq_true rfl)) (fun x4 M3 => ?_)
                  exact s_reti (iRow iCX11_broken_2 0 rfl) rfl
        · refine s_step (g_iconst (iRow iCX11_broken_0 10 rfl) kc_m1) ?_
          exact s_reti (iRow iCX11_broken_0 11 rfl) rfl
abbrev YX10_choose : mY := (RX10, "choose", cX10_choose, 3, none, none)
set_option maxHeartbeats 400000 in
set_option maxRecDepth 20000 in
theorem t_X10_choose {G : mg} {F : Nat} {a1 : Int32} {M : mm} {M' : mm} (d : Nat) (h : m_X10_choose F a1 M = some M') : CM G yX10_choose cX10_choose 3 none (d + 5) [vR 11 0, vI a1] M none M' := by
  refine ct_v (ls := [some (vR 11 0), some (vI a1), none]) rfl rfl (Nat.le_of_ble_eq_true rfl) (fun Z => ?_) h
  show SW G (d + 5) YX10_choose Z 0 [some (vR 11 0), some (vI a1), none] [] M _ _
  unfold m_X10_choose
  refine s_step (g_aload_n (iRow iCX10_choose_0 0 rfl) rfl rfl) ?_
  refine s_step (g_iload_n (iRow iCX10_choose_0 1 rfl) rfl rfl) ?_
  refine s_cl (sf := fun x => vI x :: []) (fun _ _ h => h_V (As := [_]) (iRow iCX10_choose_0 2 rfl) l10_106 iX10_brokenBy ko_11 rfl rfl rfl rfl (t_X10_brokenBy (d + 4) h) rfl (by omega) (by decide) (Nat.le_of_ble_eq_true rfl)) (fun x2 M1 => ?_)
  refine s_step (g_istore_n (ls' := [some (vR 11 0), some (vI a1), some (vI x2)]) (iRow iCX10_choose_0 3 rfl) rfl (by decide) rfl) ?_
  refine s_step (g_aload_n (iRow iCX10_choose_0 4 rfl) rfl rfl) ?_
  refine s_step (g_aload_n (iRow iCX10_choose_0 5 rfl) rfl rfl) ?_
  refine s_step (g_iload_n (iRow iCX10_choose_0 6 rfl) rfl rfl) ?_
  refine s_cl (sf := fun x => vI x :: [vR 11 0]) (fun _ _ h => h_V (As := [_]) (iRow iCX10_choose_0 7 rfl) l10_94 iX10_upIf ko_11 rfl rfl rfl rfl (t_X10_upIf (d + 0) h) rfl (by omega) (by decide) (Nat.le_of_ble_eq_true rfl)) (fun x4 M3 => ?_)
  refine s_step (g_putI (iRow iCX10_choose_0 8 rfl) f10_163 (Or.inl rfl) ko_11) ?_
  refine s_nmM (fun M5 => ?_)
  refine s_step (g_aload_n (iRow iCX10_choose_0 9 rfl) rfl rfl) ?_
  refine s_step (g_aload_n (iRow iCX10_choose_0 10 rfl) rfl rfl) ?_
  refine s_step (g_getR (iRow iCX10_choose_0 11 rfl) f10_12 ko_11 (r_11_2 _ _)) ?_
  refine s_step (g_getI (iRow iCX10_choose_0 12 rfl) f10_69 ko_5) ?_
  refine s_step (g_iload_n (iRow iCX10_choose_0 13 rfl) rfl rfl) ?_
  refine s_step (g_ior (iRow iCX10_choose_0 14 rfl)) ?_
  refine s_step (g_iconst (iRow iCX10_choose_0 15 rfl) kc_m1) ?_
  refine s_step (g_ixor (iRow iCX10_choose_0 16 rfl)) ?_
  refine s_step (g_putI (iRow iCX10_choose_0 17 rfl) f10_166 (Or.inl rfl) ko_11) ?_
  refine s_nmM (fun M6 => ?_)
  refine s_step (g_aload_n (iRow iCX10_choose_0 18 rfl) rfl rfl) ?_
  refine s_step (g_getR (iRow iCX10_choose_0 19 rfl) f10_37 ko_11 (r_11_0 _ _)) ?_
  refine s_step (g_aload_n (iRow iCX10_choose_0 20 rfl) rfl rfl) ?_
  refine s_step (g_getR (iRow iCX10_choose_0 21 rfl) f10_41 ko_11 (r_11_1 _ _)) ?_
  refine s_step (g_aload_n (iRow iCX10_choose_0 22 rfl) rfl rfl) ?_
  refine s_step (g_getI (iRow iCX10_choose_0 23 rfl) f10_163 ko_11) ?_
  refine s_cv (stA := []) (fun _ h => h_V (As := [_, _]) (iRow iCX10_choose_1 0 rfl) l10_169 iX9_settle ko_10 rfl rfl rfl rfl (t_X9_settle (d + 4) h) rfl (by omega) (by decide) (Nat.le_of_ble_eq_true rfl)) (fun M7 => ?_)
  exact s_retv (iRow iCX10_choose_1 1 rfl) rfl
abbrev YX10_gainOf : mY := (RX10, "gainOf", cX10_gainOf, 6, (some .int), none)
set_option maxHeartbeats 400000 in
set_option maxRecDepth 20000 in
theorem t_X10_gainOf {G : mg} {F : Nat} {a1 : Int32} {a2 : Int32} {M : mm} {x : Int32} {M' : mm} (d : Nat) (h : m_X10_gainOf F a1 a2 M = some (x, M')) : CM G yX10_gainOf cX10_gainOf 6 (some .int) (d + 0) [vR 11 0, vI a1, vI a2] M (some (vI x)) M' := by
  refine ct_i (ls := [some (vR 11 0), some (vI a1), some (vI a2), none, none, none]) rfl rfl (Nat.le_of_ble_eq_true rfl) (fun Z => ?_) h
  show SW G (d + 0) YX10_gainOf Z 0 [some (vR 11 0), some (vI a1), some (vI a2), none, none, none] [] M _ _
  unfold m_X10_gainOf
  refine s_step (g_iload_n (iRow iCX10_gainOf_0 0 rfl) rfl rfl) ?_
  refine s_step (g_iload_n (iRow iCX10_gainOf_0 1 rfl) rfl rfl) ?_
  refine s_step (g_ishr (iRow iCX10_gainOf_0 2 rfl)) ?_
  refine s_step (g_iconst (iRow iCX10_gainOf_0 3 rfl) kc_1) ?_
  refine s_step (g_iand (iRow iCX10_gainOf_0 4 rfl)) ?_
  refine s_bd (fun z => LM G (d + 0) YX10_gainOf Z 21 [some (vR 11 0), some (vI a1), none, none, none, none] [vI z] M) ?_ ?_
  · refine s_if (g_if_eq (tgt := 20) (iRow iCX10_gainOf_0 5 rfl) (by decide)) (fun _ => ?_) (fun _ => ?_)
    · refine s_step (g_iconst (iRow iCX10_gainOf_0 12 rfl) kc_0) ?_
      refine s_step (g_keep [true, true, false, false, false, false] rfl) ?_
      exact s_end (fun h => h)
    · refine s_step (g_aload_n (iRow iCX10_gainOf_0 6 rfl) rfl rfl) ?_
      refine s_step (g_getR (iRow iCX10_gainOf_0 7 rfl) f10_41 ko_11 (r_11_1 _ _)) ?_
      refine s_step (g_getR (iRow iCX10_gainOf_0 8 rfl) f10_173 ko_1 (r_1_3 _ _)) ?_
      refine s_step (g_iload_n (iRow iCX10_gainOf_0 9 rfl) rfl rfl) ?_
      refine s_gi (fun h => g_iald (iRow iCX10_gainOf_0 10 rfl) kn_22 ka_22 h) ?_
      refine s_step (g_goto (tgt := 21) (iRow iCX10_gainOf_0 11 rfl) (by decide)) ?_
      refine s_step (g_keep [true, true, false, false, false, false] rfl) ?_
      exact s_end (fun h => h)
  · rintro x1
    show SW G (d + 0) YX10_gainOf Z 21 [some (vR 11 0), some (vI a1), none, none, none, none] [vI x1] M _ _
    try dsimp only
    refine s_step (g_istore_n (ls' := [some (vR 11 0), some (vI a1), none, some (vI x1), none, none]) (iRow iCX10_gainOf_0 13 rfl) rfl (by decide) rfl) ?_
    refine s_step (g_aload_n (iRow iCX10_gainOf_0 14 rfl) rfl rfl) ?_
    refine s_step (g_getR (iRow iCX10_gainOf_0 15 rfl) f10_41 ko_11 (r_11_1 _ _)) ?_
    refine s_step (g_getR (iRow iCX10_gainOf_0 16 rfl) f10_115 ko_1 (r_1_4 _ _)) ?_
    refine s_step (g_iload_n (iRow iCX10_gainOf_0 17 rfl) rfl rfl) ?_
    refine s_gi (fun h => g_iald (iRow iCX10_gainOf_0 18 rfl) kn_23 ka_23 h) ?_
    refine s_step (g_aload_n (iRow iCX10_gainOf_0 19 rfl) rfl rfl) ?_
    refine s_step (g_getI (iRow iCX10_gainOf_0 20 rfl) f10_166 ko_11) ?_
    refine s_step (g_iand (iRow iCX10_gainOf_0 21 rfl)) ?_
    refine s_nmI (fun x2 => ?_)
    refine s_step (g_istore (ls' := [some (vR 11 0), some (vI a1), none, some (vI x1), some (vI x2), none]) (iRow iCX10_gainOf_0 22 rfl) (by decide) rfl) ?_
    refine s_step (g_iconst (iRow iCX10_gainOf_0 23 rfl) kc_0) ?_
    refine s_step (g_istore (ls' := [some (vR 11 0), some (vI a1), none, some (vI x1), some (vI x2), some (vI (0 : Int32))]) (iRow iCX10_gainOf_1 0 rfl) (by decide) rfl) ?_
    refine s_step (g_keep [true, false, false, true, true, true] rfl) ?_
    refine s_lp (fun z => [some (vR 11 0), none, none, some (vI (z.1)), some (vI x2), some (vI (z.2))]) (fun _ => M) (fun z => LM G (d + 0) YX10_gainOf Z 100 [none, none, none, some (vI z), none, none] [] M) rfl rfl ?_ ?_
    · rintro ⟨x3, x4⟩
      show SW G (d + 0) YX10_gainOf Z 41 [some (vR 11 0), none, none, some (vI x3), some (vI x2), some (vI x4)] [] M (b_X10_gainOf_1c F x2 M x3 x4) _
      unfold b_X10_gainOf_1c
      refine s_step (g_iload (iRow iCX10_gainOf_1 1 rfl) rfl) ?_
      refine s_step (g_aload_n (iRow iCX10_gainOf_1 2 rfl) rfl rfl) ?_
      refine s_step (g_getR (iRow iCX10_gainOf_1 3 rfl) f10_41 ko_11 (r_11_1 _ _)) ?_
      refine s_step (g_getI (iRow iCX10_gainOf_1 4 rfl) f10_160 ko_1) ?_
      refine s_if (g_icmp_ge (tgt := 100) (iRow iCX10_gainOf_1 5 rfl) (by decide)) (fun _ => ?_) (fun _ => ?_)
      · refine s_step (g_keep [false, false, false, true, false, false] rfl) ?_
        exact s_end (fun h => h)
      · refine s_step (g_aload_n (iRow iCX10_gainOf_1 6 rfl) rfl rfl) ?_
        refine s_step (g_getI (iRow iCX10_gainOf_1 7 rfl) f10_163 ko_11) ?_
        refine s_step (g_iload (iRow iCX10_gainOf_1 8 rfl) rfl) ?_
        refine s_step (g_ishr (iRow iCX10_gainOf_1 9 rfl)) ?_
        refine s_step (g_iconst (iRow iCX10_gainOf_1 10 rfl) kc_1) ?_
        refine s_step (g_iand (iRow iCX10_gainOf_1 11 rfl)) ?_
        refine s_bd (fun z => LM G (d + 0) YX10_gainOf Z 94 [some (vR 11 0), none, none, some (vI z), some (vI x2), some (vI x4)] [] M) ?_ ?_
        · refine s_if (g_if_eq (tgt := 94) (iRow iCX10_gainOf_1 12 rfl) (by decide)) (fun _ => ?_) (fun _ => ?_)
          · exact s_end (fun h => h)
          · refine s_step (g_aload_n (iRow iCX10_gainOf_1 13 rfl) rfl rfl) ?_
            refine s_step (g_getR (iRow iCX10_gainOf_1 14 rfl) f10_37 ko_11 (r_11_0 _ _)) ?_
            refine s_step (g_getR (iRow iCX10_gainOf_1 15 rfl) f10_176 ko_10 (r_10_0 _ _)) ?_
            refine s_step (g_iload (iRow iCX10_gainOf_1 16 rfl) rfl) ?_
            refine s_gi (fun h => g_iald (iRow iCX10_gainOf_1 17 rfl) kn_47 ka_47 h) ?_
            refine s_step (g_iload (iRow iCX10_gainOf_1 18 rfl) rfl) ?_
            refine s_step (g_iand (iRow iCX10_gainOf_1 19 rfl)) ?_
            refine s_if (g_if_eq (tgt := 94) (iRow iCX10_gainOf_1 20 rfl) (by decide)) (fun _ => ?_) (fun _ => ?_)
            · exact s_end (fun h => h)
            · refine s_step (g_iload_n (iRow iCX10_gainOf_1 21 rfl) rfl rfl) ?_
              refine s_step (g_aload_n (iRow iCX10_gainOf_1 22 rfl) rfl rfl) ?_
              refine s_step (g_getR (iRow iCX10_gainOf_1 23 rfl) f10_41 ko_11 (r_11_1 _ _)) ?_
              refine s_step (g_getR (iRow iCX10_gainOf_2 0 rfl) f10_179 ko_1 (r_1_16 _ _)) ?_
              refine s_step (g_iload (iRow iCX10_gainOf_2 1 rfl) rfl) ?_
              refine s_gi (fun h => g_iald (iRow iCX10_gainOf_2 2 rfl) kn_32 ka_32 h) ?_
              refine s_step (g_iadd (iRow iCX10_gainOf_2 3 rfl)) ?_
              refine s_nmI (fun x5 => ?_)
              refine s_step (g_istore_n (ls' := [some (vR 11 0), none, none, some (vI x5), some (vI x2), some (vI x4)]) (iRow iCX10_gainOf_2 4 rfl) rfl (by decide) rfl) ?_
              exact s_end (fun h => h)
        · rintro x6
          show SW G (d + 0) YX10_gainOf Z 94 [some (vR 11 0), none, none, some (vI x6), some (vI x2), some (vI x4)] [] M _ _
          try dsimp only
          refine s_step (g_iincc (c := 1) (ls' := [some (vR 11 0), none, none, some (vI x6), some (vI x2), some (vI (x4 + (1 : Int32)))]) (iRow iCX10_gainOf_2 5 rfl) rfl kc_1 (by decide) rfl) ?_
          refine s_step (g_goto (tgt := 41) (iRow iCX10_gainOf_2 6 rfl) (by decide)) ?_
          exact s_end (fun h => h)
    · rintro x7
      show SW G (d + 0) YX10_gainOf Z 100 [none, none, none, some (vI x7), none, none] [] M _ _
      try dsimp only
      refine s_step (g_iload_n (iRow iCX10_gainOf_2 7 rfl) rfl rfl) ?_
      exact s_reti (iRow iCX10_gainOf_2 8 rfl) rfl
abbrev YX10_fillGains : mY := (RX10, "fillGains", cX10_fillGains, 3, none, none)
set_option maxHeartbeats 400000 in
set_option maxRecDepth 20000 in
theorem t_X10_fillGains {G : mg} {F : Nat} {M : mm} {M' : mm} (d : Nat) (h : m_X10_fillGains F M = some M') : CM G yX10_fillGains cX10_fillGains 3 none (d + 6) [vR 11 0] M none M' := by
  refine ct_v (ls := [some (vR 11 0), none, none]) rfl rfl (Nat.le_of_ble_eq_true rfl) (fun Z => ?_) h
  show SW G (d + 6) YX10_fillGains Z 0 [some (vR 11 0), none, none] [] M _ _
  unfold m_X10_fillGains
  refine s_step (g_iconst (iRow iCX10_fillGains_0 0 rfl) kc_0) ?_
  refine s_step (g_istore_n (ls' := [some (vR 11 0), some (vI (0 : Int32)), none]) (iRow iCX10_fillGains_0 1 rfl) rfl (by decide) rfl) ?_
  refine s_lp (fun z => [some (vR 11 0), some (vI (z.1)), none]) (fun z => z.2) (fun z => LM G (d + 6) YX10_fillGains Z 62 [none, none, none] [] z) rfl rfl ?_ ?_
  · rintro ⟨x1, M2⟩
    show SW G (d + 6) YX10_fillGains Z 2 [some (vR 11 0), some (vI x1), none] [] M2 (b_X10_fillGains_1c F x1 M2) _
    unfold b_X10_fillGains_1c
    refine s_step (g_iload_n (iRow iCX10_fillGains_0 2 rfl) rfl rfl) ?_
    refine s_step (g_iconst (iRow iCX10_fillGains_0 3 rfl) kc_1) ?_
    refine s_step (g_aload_n (iRow iCX10_fillGains_0 4 rfl) rfl rfl) ?_
    refine s_step (g_getR (iRow iCX10_fillGains_0 5 rfl) f10_41 ko_11 (r_11_1 _ _)) ?_
    refine s_step (g_getI (iRow iCX10_fillGains_0 6 rfl) f10_103 ko_1) ?_
    refine s_step (g_ishl (iRow iCX10_fillGains_0 7 rfl)) ?_
    refine s_if (g_icmp_ge (tgt := 62) (iRow iCX10_fillGains_0 8 rfl) (by decide)) (fun _ => ?_) (fun _ => ?_)
    · refine s_step (g_keep [false, false, false] rfl) ?_
      exact s_end (fun h => h)
    · refine s_step (g_aload_n (iRow iCX10_fillGains_0 9 rfl) rfl rfl) ?_
      refine s_step (g_iload_n (iRow iCX10_fillGains_0 10 rfl) rfl rfl) ?_
      refine s_cv (stA := []) (fun _ h => h_V (As := [_]) (iRow iCX10_fillGains_0 11 rfl) l10_182 iX10_choose ko_11 rfl rfl rfl rfl (t_X10_choose (d + 0) h) rfl (by omega) (by decide) (Nat.le_of_ble_eq_true rfl)) (fun M3 => ?_)
      refine s_step (g_iconst (iRow iCX10_fillGains_0 12 rfl) kc_0) ?_
      refine s_step (g_istore_n (ls' := [some (vR 11 0), some (vI x1), some (vI (0 : Int32))]) (iRow iCX10_fillGains_0 13 rfl) rfl (by decide) rfl) ?_
      refine s_lp (fun z => [some (vR 11 0), some (vI x1), some (vI (z.1))]) (fun z => z.2) (fun z => LM G (d + 6) YX10_fillGains Z 56 [some (vR 11 0), some (vI x1), none] [] z) rfl rfl ?_ ?_
      · rintro ⟨x4, M5⟩
        show SW G (d + 6) YX10_fillGains Z 22 [some (vR 11 0), some (vI x1), some (vI x4)] [] M5 (b_X10_fillGains_2c F x1 x4 M5) _
        unfold b_X10_fillGains_2c
        refine s_step (g_iload_n (iRow iCX10_fillGains_0 14 rfl) rfl rfl) ?_
        refine s_step (g_aload_n (iRow iCX10_fillGains_0 15 rfl) rfl rfl) ?_
        refine s_step (g_getR (iRow iCX10_fillGains_0 16 rfl) f10_41 ko_11 (r_11_1 _ _)) ?_
        refine s_step (g_getI (iRow iCX10_fillGains_0 17 rfl) f10_103 ko_1) ?_
        refine s_if (g_icmp_ge (tgt := 56) (iRow iCX10_fillGains_0 18 rfl) (by decide)) (fun _ => ?_) (fun _ => ?_)
        · refine s_step (g_keep [true, true, false] rfl) ?_
          exact s_end (fun h => h)
        · refine s_step (g_aload_n (iRow iCX10_fillGains_0 19 rfl) rfl rfl) ?_
          refine s_step (g_getR (iRow iCX10_fillGains_0 20 rfl) f10_34 ko_11 (r_11_16 _ _)) ?_
          refine s_step (g_iload_n (iRow iCX10_fillGains_0 21 rfl) rfl rfl) ?_
          refine s_step (g_bipush (iRow iCX10_fillGains_0 22 rfl) kb_6) ?_
          refine s_step (g_imul (iRow iCX10_fillGains_0 23 rfl)) ?_
          refine s_step (g_iload_n (iRow iCX10_fillGains_1 0 rfl) rfl rfl) ?_
          refine s_step (g_iadd (iRow iCX10_fillGains_1 1 rfl)) ?_
          refine s_step (g_aload_n (iRow iCX10_fillGains_1 2 rfl) rfl rfl) ?_
          refine s_step (g_iload_n (iRow iCX10_fillGains_1 3 rfl) rfl rfl) ?_
          refine s_step (g_iload_n (iRow iCX10_fillGains_1 4 rfl) rfl rfl) ?_
          refine s_cl (sf := fun x => vI x :: [vI ((x1 * (6 : Int32)) + x4), vR 59 0]) (fun _ _ h => h_V (As := [_, _]) (iRow iCX10_fillGains_1 5 rfl) l10_185 iX10_gainOf ko_11 rfl rfl rfl rfl (t_X10_gainOf (d + 5) h) rfl (by omega) (by decide) (Nat.le_of_ble_eq_true rfl)) (fun x7 M6 => ?_)
          refine s_gi (fun h => g_iast (iRow iCX10_fillGains_1 6 rfl) kn_59 ka_59 h) ?_
          refine s_nmM (fun M8 => ?_)
          refine s_step (g_iincc (c := 1) (ls' := [some (vR 11 0), some (vI x1), some (vI (x4 + (1 : Int32)))]) (iRow iCX10_fillGains_1 7 rfl) rfl kc_1 (by decide) rfl) ?_
          refine s_step (g_goto (tgt := 22) (iRow iCX10_fillGains_1 8 rfl) (by decide)) ?_
          exact s_end (fun h => h)
      · rintro M9
        show SW G (d + 6) YX10_fillGains Z 56 [some (vR 11 0), some (vI x1), none] [] M9 _ _
        try dsimp only
        refine s_step (g_iincc (c := 1) (ls' := [some (vR 11 0), some (vI (x1 + (1 : Int32))), none]) (iRow iCX10_fillGains_1 9 rfl) rfl kc_1 (by decide) rfl) ?_
        refine s_step (g_goto (tgt := 2) (iRow iCX10_fillGains_1 10 rfl) (by decide)) ?_
        exact s_end (fun h => h)
  · rintro M10
    show SW G (d + 6) YX10_fillGains Z 62 [none, none, none] [] M10 _ _
    try dsimp only
    exact s_retv (iRow iCX10_fillGains_1 11 rfl) rfl
abbrev YX10_isRest : mY := (RX10, "isRest", cX10_isRest, 4, (some .boolean), none)
set_option maxHeartbeats 400000 in
set_option maxRecDepth 20000 in
theorem t_X10_isRest {G : mg} {F : Nat} {a1 : Int32} {M : mm} {x : Bool} {M' : mm} (d : Nat) (h : m_X10_isRest F a1 M = some (x, M')) : CM G yX10_isRest cX10_isRest 4 (some .boolean) (d + 0) [vR 11 0, vI a1] M (some (vI (bI x))) M' := by
  refine ct_z (ls := [some (vR 11 0), some (vI a1), none, none]) rfl rfl (Nat.le_of_ble_eq_true rfl) (fun Z => ?_) h
  show SW G (d + 0) YX10_isRest Z 0 [some (vR 11 0), some (vI a1), none, none] [] M _ _
  unfold m_X10_isRest
  refine s_step (g_iconst (iRow iCX10_isRest_0 0 rfl) kc_0) ?_
  refine s_step (g_istore_n (ls' := [some (vR 11 0), some (vI a1), some (vI (0 : Int32)), none]) (iRow iCX10_isRest_0 1 rfl) rfl (by decide) rfl) ?_
  refine s_lp (fun z => [some (vR 11 0), some (vI a1), some (vI z), none]) (fun _ => M) (Sum.elim (fun z => LM G (d + 0) YX10_isRest Z 44 [none, none, none, none] [] M) (fun z => LM G (d + 0) YX10_isRest Z 52 [none, none, none, none] [] M)) rfl rfl ?_ ?_
  · rintro x1
    show SW G (d + 0) YX10_isRest Z 2 [some (vR 11 0), some (vI a1), some (vI x1), none] [] M (b_X10_isRest_1c F a1 M x1) _
    unfold b_X10_isRest_1c
    refine s_step (g_iload_n (iRow iCX10_isRest_0 2 rfl) rfl rfl) ?_
    refine s_step (g_aload_n (iRow iCX10_isRest_0 3 rfl) rfl rfl) ?_
    refine s_step (g_getR (iRow iCX10_isRest_0 4 rfl) f10_41 ko_11 (r_11_1 _ _)) ?_
    refine s_step (g_getI (iRow iCX10_isRest_0 5 rfl) f10_103 ko_1) ?_
    refine s_if (g_icmp_ge (tgt := 52) (iRow iCX10_isRest_0 6 rfl) (by decide)) (fun _ => ?_) (fun _ => ?_)
    · refine s_step (g_keep [false, false, false, false] rfl) ?_
      exact s_end (fun h => h)
    · refine s_step (g_iload_n (iRow iCX10_isRest_0 7 rfl) rfl rfl) ?_
      refine s_step (g_iconst (iRow iCX10_isRest_0 8 rfl) kc_1) ?_
      refine s_step (g_iload_n (iRow iCX10_isRest_0 9 rfl) rfl rfl) ?_
      refine s_step (g_ishl (iRow iCX10_isRest_0 10 rfl)) ?_
      refine s_step (g_ixor (iRow iCX10_isRest_0 11 rfl)) ?_
      refine s_nmI (fun x2 => ?_)
      refine s_step (g_istore_n (ls' := [some (vR 11 0), some (vI a1), some (vI x1), some (vI x2)]) (iRow iCX10_isRest_0 12 rfl) rfl (by decide) rfl) ?_
      refine s_step (g_aload_n (iRow iCX10_isRest_0 13 rfl) rfl rfl) ?_
      refine s_step (g_getR (iRow iCX10_isRest_0 14 rfl) f10_34 ko_11 (r_11_16 _ _)) ?_
      refine s_step (g_iload_n (iRow iCX10_isRest_0 15 rfl) rfl rfl) ?_
      refine s_step (g_bipush (iRow iCX10_isRest_0 16 rfl) kb_6) ?_
      refine s_step (g_imul (iRow iCX10_isRest_0 17 rfl)) ?_
      refine s_step (g_iload_n (iRow iCX10_isRest_0 18 rfl) rfl rfl) ?_
      refine s_step (g_iadd (iRow iCX10_isRest_0 19 rfl)) ?_
      refine s_gi (fun h => g_iald (iRow iCX10_isRest_0 20 rfl) kn_59 ka_59 h) ?_
      refine s_step (g_aload_n (iRow iCX10_isRest_0 21 rfl) rfl rfl) ?_
      refine s_step (g_getR (iRow iCX10_isRest_0 22 rfl) f10_34 ko_11 (r_11_16 _ _)) ?_
      refine s_step (g_iload_n (iRow iCX10_isRest_0 23 rfl) rfl rfl) ?_
      refine s_step (g_bipush (iRow iCX10_isRest_1 0 rfl) kb_6) ?_
      refine s_step (g_imul (iRow iCX10_isRest_1 1 rfl)) ?_
      refine s_step (g_iload_n (iRow iCX10_isRest_1 2 rfl) rfl rfl) ?_
      refine s_step (g_iadd (iRow iCX10_isRest_1 3 rfl)) ?_
      refine s_gi (fun h => g_iald (iRow iCX10_isRest_1 4 rfl) kn_59 ka_59 h) ?_
      refine s_if (g_icmp_le (tgt := 46) (iRow iCX10_isRest_1 5 rfl) (by decide)) (fun _ => ?_) (fun _ => ?_)
      · refine s_step (g_iincc (c := 1) (ls' := [some (vR 11 0), some (vI a1), some (vI (x1 + (1 : Int32))), some (vI x2)]) (iRow iCX10_isRest_1 8 rfl) rfl kc_1 (by decide) rfl) ?_
        refine s_step (g_goto (tgt := 2) (iRow iCX10_isRest_1 9 rfl) (by decide)) ?_
        refine s_step (g_keep [true, true, true, false] rfl) ?_
        exact s_end (fun h => h)
      · refine s_step (g_keep [false, false, false, false] rfl) ?_
        exact s_end (fun h => h)
  · intro z
    rcases z with z | z
    · obtain ⟨⟩ := z
      show SW G (d + 0) YX10_isRest Z 44 [none, none, none, none] [] M _ _
      try dsimp only [Sum.elim]
      refine s_step (g_iconst (iRow iCX10_isRest_1 6 rfl) kc_0) ?_
      exact s_retz (b := false) (iRow iCX10_isRest_1 7 rfl) rfl rfl
    · obtain ⟨⟩ := z
      show SW G (d + 0) YX10_isRest Z 52 [none, none, none, none] [] M _ _
      try dsimp only [Sum.elim]
      refine s_step (g_iconst (iRow iCX10_isRest_1 10 rfl) kc_1) ?_
      exact s_retz (b := true) (iRow iCX10_isRest_1 11 rfl) rfl rfl
abbrev YX11_rests : mY := (RX11, "rests", cX11_rests, 4, (some .int), none)
set_option maxHeartbeats 400000 in
set_option maxRecDepth 20000 in
theorem t_X11_rests {G : mg} {F : Nat} {a1 : Int32} {M : mm} {x : Int32} {M' : mm} (d : Nat) (h : m_X11_rests F a1 M = some (x, M')) : CM G yX11_rests cX11_rests 4 (some .int) (d + 7) [vR 12 0, vI a1] M (some (vI x)) M' := by
  refine ct_i (ls := [some (vR 12 0), some (vI a1), none, none]) rfl rfl (Nat.le_of_ble_eq_true rfl) (fun Z => ?_) h
  show SW G (d + 7) YX11_rests Z 0 [some (vR 12 0), some (vI a1), none, none] [] M _ _
  unfold m_X11_rests
  refine s_step (g_iload_n (iRow iCX11_rests_0 0 rfl) rfl rfl) ?_
  refine s_step (g_iconst (iRow iCX11_rests_0 1 rfl) kc_m1) ?_
  refine s_if (g_icmp_ge (tgt := 7) (iRow iCX11_rests_0 2 rfl) (by decide)) (fun _ => ?_) (fun _ => ?_)
  · refine s_step (g_aload_n (iRow iCX11_rests_0 5 rfl) rfl rfl) ?_
    refine s_step (g_getR (iRow iCX11_rests_0 6 rfl) f11_66 ko_12 (r_12_4 _ _)) ?_
    refine s_step (g_aload_n (iRow iCX11_rests_0 7 rfl) rfl rfl) ?_
    refine s_step (g_getR (iRow iCX11_rests_0 8 rfl) f11_10 ko_12 (r_12_6 _ _)) ?_
    refine s_step (g_aload_n (iRow iCX11_rests_0 9 rfl) rfl rfl) ?_
    refine s_step (g_getR (iRow iCX11_rests_0 10 rfl) f11_82 ko_12 (r_12_8 _ _)) ?_
    refine s_cv (stA := []) (fun _ h => h_V (As := [_, _]) (iRow iCX11_rests_0 11 rfl) l11_244 iX10_look ko_11 rfl rfl rfl rfl (t_X10_look (d + 5) h) rfl (by omega) (by decide) (Nat.le_of_ble_eq_true rfl)) (fun M1 => ?_)
    refine s_step (g_aload_n (iRow iCX11_rests_0 12 rfl) rfl rfl) ?_
    refine s_step (g_getR (iRow iCX11_rests_0 13 rfl) f11_66 ko_12 (r_12_4 _ _)) ?_
    refine s_cv (stA := []) (fun _ h => h_V (As := []) (iRow iCX11_rests_0 14 rfl) l11_314 iX10_fillGains ko_11 rfl rfl rfl rfl (t_X10_fillGains (d + 0) h) rfl (by omega) (by decide) (Nat.le_of_ble_eq_true rfl)) (fun M2 => ?_)
    refine s_step (g_iconst (iRow iCX11_rests_0 15 rfl) kc_0) ?_
    refine s_step (g_istore_n (ls' := [some (vR 12 0), some (vI a1), some (vI (0 : Int32)), none]) (iRow iCX11_rests_0 16 rfl) rfl (by decide) rfl) ?_
    refine s_step (g_iconst (iRow iCX11_rests_0 17 rfl) kc_0) ?_
    refine s_step (g_istore_n (ls' := [some (vR 12 0), some (vI a1), some (vI (0 : Int32)), some (vI (0 : Int32))]) (iRow iCX11_rests_0 18 rfl) rfl (by decide) rfl) ?_
    refine s_lp (fun z => [some (vR 12 0), some (vI a1), some (vI (z.1)), some (vI (z.2.1))]) (fun z => z.2.2) (Sum.elim (fun z => LM G (d + 7) YX11_rests Z 62 [none, none, none, some (vI (z.1))] [] z.2) (fun z => LM G (d + 7) YX11_rests Z 73 [none, some (vI a1), some (vI (z.1)), none] [] z.2)) rfl rfl ?_ ?_
    · rintro ⟨x3, x4, M5⟩
      show SW G (d + 7) YX11_rests Z 33 [some (vR 12 0), some (vI a1), some (vI x3), some (vI x4)] [] M5 (b_X11_rests_1c F a1 x3 x4 M5) _
      unfold b_X11_rests_1c
      refine s_step (g_iload_n (iRow iCX11_rests_0 19 rfl) rfl rfl) ?_
      refine s_step (g_iconst (iRow iCX11_rests_0 20 rfl) kc_1) ?_
      refine s_step (g_aload_n (iRow iCX11_rests_0 21 rfl) rfl rfl) ?_
      refine s_step (g_getR (iRow iCX11_rests_0 22 rfl) f11_10 ko_12 (r_12_6 _ _)) ?_
      refine s_step (g_getI (iRow iCX11_rests_0 23 rfl) f11_137 ko_1) ?_
      refine s_step (g_ishl (iRow iCX11_rests_1 0 rfl)) ?_
      refine s_if (g_icmp_ge (tgt := 73) (iRow iCX11_rests_1 1 rfl) (by decide)) (fun _ => ?_) (fun _ => ?_)
      · refine s_step (g_keep [false, true, true, false] rfl) ?_
        exact s_end (fun h => h)
      · refine s_step (g_aload_n (iRow iCX11_rests_1 2 rfl) rfl rfl) ?_
        refine s_step (g_getR (iRow iCX11_rests_1 3 rfl) f11_66 ko_12 (r_12_4 _ _)) ?_
        refine s_step (g_iload_n (iRow iCX11_rests_1 4 rfl) rfl rfl) ?_
        refine s_cb (sf := fun b => vI (bI b) :: []) (fun _ _ h => h_V (As := [_]) (iRow iCX11_rests_1 5 rfl) l11_317 iX10_isRest ko_11 rfl rfl rfl rfl (t_X10_isRest (d + 6) h) rfl (by omega) (by decide) (Nat.le_of_ble_eq_true rfl)) (fun b7 M6 => ?_)
        refine s_nj 67 (fun z => [some (vR 12 0), some (vI a1), some (vI z), some (vI x4)]) (fun z => []) (fun z => M6) ?_ (fun j67 hj67 => ?_)
        · rintro x8
          show SW G (d + 7) YX11_rests Z 67 [some (vR 12 0), some (vI a1), some (vI x8), some (vI x4)] [] M6 _ _
          try dsimp only
          refine s_step (g_iincc (c := 1) (ls' := [some (vR 12 0), some (vI a1), some (vI x8), some (vI (x4 + (1 : Int32)))]) (iRow iCX11_rests_1 13 rfl) rfl kc_1 (by decide) rfl) ?_
          refine s_step (g_goto (tgt := 33) (iRow iCX11_rests_1 14 rfl) (by decide)) ?_
          exact s_end (fun h => h)
        · refine s_ifeqb (g_if_eq (tgt := 67) (iRow iCX11_rests_1 6 rfl) (by decide)) (fun _ => ?_) (fun _ => ?_)
          · refine s_step (g_iload_n (iRow iCX11_rests_1 7 rfl) rfl rfl) ?_
            refine s_step (g_iload_n (iRow iCX11_rests_1 8 rfl) rfl rfl) ?_
            refine s_ifn (g_icmp_ne (tgt := 64) (iRow iCX11_rests_1 9 rfl) (by decide)) (fun _ => ?_) (fun _ => ?_)
            · refine s_step (g_keep [false, false, false, true] rfl) ?_
              exact s_end (fun h => h)
            · refine s_step (g_iincc (c := 1) (ls' := [some (vR 12 0), some (vI a1), some (vI (x3 + (1 : Int32))), some (vI x4)]) (iRow iCX11_rests_1 12 rfl) rfl kc_1 (by decide) rfl) ?_
              exact hj67 _
          · exact hj67 _
    · intro z
      rcases z with z | z
      · obtain ⟨x9, M10⟩ := z
        show SW G (d + 7) YX11_rests Z 62 [none, none, none, some (vI x9)] [] M10 _ _
        try dsimp only [Sum.elim]
        refine s_step (g_iload_n (iRow iCX11_rests_1 10 rfl) rfl rfl) ?_
        exact s_reti (iRow iCX11_rests_1 11 rfl) rfl
      · obtain ⟨x11, M12⟩ := z
        show SW G (d + 7) YX11_rests Z 73 [none, some (vI a1), some (vI x11), none] [] M12 _ _
        try dsimp only [Sum.elim]
        refine s_step (g_iload_n (iRow iCX11_rests_1 15 rfl) rfl rfl) ?_
        refine s_step (g_iconst (iRow iCX11_rests_1 16 rfl) kc_m1) ?_
        refine s_ifn (g_icmp_ne (tgt := 82) (iRow iCX11_rests_1 17 rfl) (by decide)) (fun _ => ?_) (fun _ => ?_)
        · refine s_step (g_iload_n (iRow iCX11_rests_1 18 rfl) rfl rfl) ?_
          refine s_step (g_goto (tgt := 83) (iRow iCX11_rests_1 19 rfl) (by decide)) ?_
          exact s_reti (iRow iCX11_rests_1 21 rfl) rfl
        · refine s_step (g_iconst (iRow iCX11_rests_1 20 rfl) kc_m1) ?_
          exact s_reti (iRow iCX11_rests_1 21 rfl) rfl
  · refine s_step (g_iconst (iRow iCX11_rests_0 3 rfl) kc_m1) ?_
    exact s_reti (iRow iCX11_rests_0 4 rfl) rfl
abbrev YX11_gains : mY := (RX11, "gains", cX11_gains, 3, (some .int), none)
set_option maxHeartbeats 400000 in
set_option maxRecDepth 20000 in
theorem t_X11_gains {G : mg} {F : Nat} {a1 : Int32} {a2 : Int32} {M : mm} {x : Int32} {M' : mm} (d : Nat) (h : m_X11_gains F a1 a2 M = some (x, M')) : CM G yX11_gains cX11_gains 3 (some .int) (d + 6) [vR 12 0, vI a1, vI a2] M (some (vI x)) M' := by
  refine ct_i (ls := [some (vR 12 0), some (vI a1), some (vI a2)]) rfl rfl (Nat.le_of_ble_eq_true rfl) (fun Z => ?_) h
  show SW G (d + 6) YX11_gains Z 0 [some (vR 12 0), some (vI a1), some (vI a2)] [] M _ _
  unfold m_X11_gains
  refine s_step (g_iload_n (iRow iCX11_gains_0 0 rfl) rfl rfl) ?_
  refine s_nj 32 (fun z => [none, none, none]) (fun z => []) (fun z => M) ?_ (fun j32 hj32 => ?_)
  · intro _
    show SW G (d + 6) YX11_gains Z 32 [none, none, none] [] M _ _
    try dsimp only
    exact s_none
  · refine s_if (g_if_lt (tgt := 32) (iRow iCX11_gains_0 1 rfl) (by decide)) (fun _ => ?_) (fun _ => ?_)
    · refine s_step (g_keep [false, false, false] rfl) ?_
      exact hj32 _
    · refine s_step (g_iload_n (iRow iCX11_gains_0 2 rfl) rfl rfl) ?_
      refine s_step (g_aload_n (iRow iCX11_gains_0 3 rfl) rfl rfl) ?_
      refine s_step (g_getR (iRow iCX11_gains_0 4 rfl) f11_10 ko_12 (r_12_6 _ _)) ?_
      refine s_step (g_getI (iRow iCX11_gains_0 5 rfl) f11_137 ko_1) ?_
      refine s_if (g_icmp_ge (tgt := 32) (iRow iCX11_gains_0 6 rfl) (by decide)) (fun _ => ?_) (fun _ => ?_)
      · refine s_step (g_keep [false, false, false] rfl) ?_
        exact hj32 _
      · refine s_step (g_iload_n (iRow iCX11_gains_0 7 rfl) rfl rfl) ?_
        refine s_if (g_if_lt (tgt := 32) (iRow iCX11_gains_0 8 rfl) (by decide)) (fun _ => ?_) (fun _ => ?_)
        · refine s_step (g_keep [false, false, false] rfl) ?_
          exact hj32 _
        · refine s_step (g_iload_n (iRow iCX11_gains_0 9 rfl) rfl rfl) ?_
          refine s_step (g_iconst (iRow iCX11_gains_0 10 rfl) kc_1) ?_
          refine s_step (g_aload_n (iRow iCX11_gains_0 11 rfl) rfl rfl) ?_
          refine s_step (g_getR (iRow iCX11_gains_0 12 rfl) f11_10 ko_12 (r_12_6 _ _)) ?_
          refine s_step (g_getI (iRow iCX11_gains_0 13 rfl) f11_137 ko_1) ?_
          refine s_step (g_ishl (iRow iCX11_gains_0 14 rfl)) ?_
          refine s_if (g_icmp_lt (tgt := 40) (iRow iCX11_gains_0 15 rfl) (by decide)) (fun _ => ?_) (fun _ => ?_)
          · refine s_step (g_aload_n (iRow iCX11_gains_0 20 rfl) rfl rfl) ?_
            refine s_step (g_getR (iRow iCX11_gains_0 21 rfl) f11_66 ko_12 (r_12_4 _ _)) ?_
            refine s_step (g_aload_n (iRow iCX11_gains_0 22 rfl) rfl rfl) ?_
            refine s_step (g_getR (iRow iCX11_gains_0 23 rfl) f11_10 ko_12 (r_12_6 _ _)) ?_
            refine s_step (g_aload_n (iRow iCX11_gains_1 0 rfl) rfl rfl) ?_
            refine s_step (g_getR (iRow iCX11_gains_1 1 rfl) f11_82 ko_12 (r_12_8 _ _)) ?_
            refine s_cv (stA := []) (fun _ h => h_V (As := [_, _]) (iRow iCX11_gains_1 2 rfl) l11_244 iX10_look ko_11 rfl rfl rfl rfl (t_X10_look (d + 4) h) rfl (by omega) (by decide) (Nat.le_of_ble_eq_true rfl)) (fun M1 => ?_)
            refine s_step (g_aload_n (iRow iCX11_gains_1 3 rfl) rfl rfl) ?_
            refine s_step (g_getR (iRow iCX11_gains_1 4 rfl) f11_66 ko_12 (r_12_4 _ _)) ?_
            refine s_step (g_iload_n (iRow iCX11_gains_1 5 rfl) rfl rfl) ?_
            refine s_cv (stA := []) (fun _ h => h_V (As := [_]) (iRow iCX11_gains_1 6 rfl) l11_323 iX10_choose ko_11 rfl rfl rfl rfl (t_X10_choose (d + 0) h) rfl (by omega) (by decide) (Nat.le_of_ble_eq_true rfl)) (fun M2 => ?_)
            refine s_step (g_aload_n (iRow iCX11_gains_1 7 rfl) rfl rfl) ?_
            refine s_step (g_getR (iRow iCX11_gains_1 8 rfl) f11_66 ko_12 (r_12_4 _ _)) ?_
            refine s_step (g_iload_n (iRow iCX11_gains_1 9 rfl) rfl rfl) ?_
            refine s_step (g_iload_n (iRow iCX11_gains_1 10 rfl) rfl rfl) ?_
            refine s_cl (sf := fun x => vI x :: []) (fun _ _ h => h_V (As := [_, _]) (iRow iCX11_gains_1 11 rfl) l11_326 iX10_gainOf ko_11 rfl rfl rfl rfl (t_X10_gainOf (d + 5) h) rfl (by omega) (by decide) (Nat.le_of_ble_eq_true rfl)) (fun x4 M3 => ?_)
            exact s_reti (iRow iCX11_gains_1 12 rfl) rfl
          · refine s_step (g_keep [false, false, false] rfl) ?_
            exact hj32 _
abbrev YX7_draw : mY := (RX7, "draw", cX7_draw, 1, (some .int), none)
set_option maxHeartbeats 400000 in
set_option maxRecDepth 20000 in
theorem t_X7_draw {G : mg} {F : Nat} {M : mm} {x : Int32} {M' : mm} (d : Nat) (h : m_X7_draw F M = some (x, M')) : CM G yX7_draw cX7_draw 1 (some .int) (d + 0) [vR 8 0] M (some (vI x)) M' := by
  refine ct_i (ls := [some (vR 8 0)]) rfl rfl (Nat.le_of_ble_eq_true rfl) (fun Z => ?_) h
  show SW G (d + 0) YX7_draw Z 0 [some (vR 8 0)] [] M _ _
  unfold m_X7_draw
  refine s_step (g_aload_n (iRow iCX7_draw_0 0 rfl) rfl rfl) ?_
  refine s_step (g_aload_n (iRow iCX7_draw_0 1 rfl) rfl rfl) ?_
  refine s_step (g_getI (iRow iCX7_draw_0 2 rfl) f7_103 ko_8) ?_
  refine s_step (g_ldc (iRow iCX7_draw_0 3 rfl) k7_146) ?_
  refine s_step (g_imul (iRow iCX7_draw_0 4 rfl)) ?_
  refine s_step (g_sipush (iRow iCX7_draw_0 5 rfl) ks_12345) ?_
  refine s_step (g_iadd (iRow iCX7_draw_0 6 rfl)) ?_
  refine s_step (g_ldc (iRow iCX7_draw_0 7 rfl) k7_147) ?_
  refine s_step (g_iand (iRow iCX7_draw_0 8 rfl)) ?_
  refine s_step (g_putI (iRow iCX7_draw_0 9 rfl) f7_103 (Or.inl rfl) ko_8) ?_
  refine s_nmM (fun M1 => ?_)
  refine s_step (g_aload_n (iRow iCX7_draw_0 10 rfl) rfl rfl) ?_
  refine s_step (g_getI (iRow iCX7_draw_0 11 rfl) f7_103 ko_8) ?_
  refine s_step (g_ldc (iRow iCX7_draw_0 12 rfl) k7_148) ?_
  refine s_step (g_idiv (iRow iCX7_draw_0 13 rfl) (by decide)) ?_
  refine s_step (g_bipush (iRow iCX7_draw_0 14 rfl) kb_10) ?_
  refine s_step (g_irem (iRow iCX7_draw_0 15 rfl) (by decide)) ?_
  exact s_reti (iRow iCX7_draw_0 16 rfl) rfl
abbrev YX7_firstOf : mY := (RX7, "firstOf", cX7_firstOf, 2, (some .int), none)
set_option maxHeartbeats 400000 in
set_option maxRecDepth 20000 in
theorem t_X7_firstOf {G : mg} {F : Nat} {a1 : Int32} {M : mm} {x : Int32} {M' : mm} (d : Nat) (h : m_X7_firstOf F a1 M = some (x, M')) : CM G yX7_firstOf cX7_firstOf 2 (some .int) (d + 0) [vI a1] M (some (vI x)) M' := by
  refine ct_i (ls := [some (vI a1), none]) rfl rfl (Nat.le_of_ble_eq_true rfl) (fun Z => ?_) h
  show SW G (d + 0) YX7_firstOf Z 0 [some (vI a1), none] [] M _ _
  unfold m_X7_firstOf
  refine s_step (g_iconst (iRow iCX7_firstOf_0 0 rfl) kc_0) ?_
  refine s_step (g_istore_n (ls' := [some (vI a1), some (vI (0 : Int32))]) (iRow iCX7_firstOf_0 1 rfl) rfl (by decide) rfl) ?_
  refine s_lp (fun z => [some (vI a1), some (vI z)]) (fun _ => M) (Sum.elim (fun z => LM G (d + 0) YX7_firstOf Z 16 [none, some (vI z)] [] M) (fun z => LM G (d + 0) YX7_firstOf Z 24 [none, none] [] M)) rfl rfl ?_ ?_
  · rintro x1
    show SW G (d + 0) YX7_firstOf Z 2 [some (vI a1), some (vI x1)] [] M (b_X7_firstOf_1c F a1 x1) _
    unfold b_X7_firstOf_1c
    refine s_step (g_iload_n (iRow iCX7_firstOf_0 2 rfl) rfl rfl) ?_
    refine s_step (g_bipush (iRow iCX7_firstOf_0 3 rfl) kb_10) ?_
    refine s_if (g_icmp_ge (tgt := 24) (iRow iCX7_firstOf_0 4 rfl) (by decide)) (fun _ => ?_) (fun _ => ?_)
    · refine s_step (g_keep [false, false] rfl) ?_
      exact s_end (fun h => h)
    · refine s_step (g_iload_n (iRow iCX7_firstOf_0 5 rfl) rfl rfl) ?_
      refine s_step (g_iload_n (iRow iCX7_firstOf_0 6 rfl) rfl rfl) ?_
      refine s_step (g_ishr (iRow iCX7_firstOf_0 7 rfl)) ?_
      refine s_step (g_iconst (iRow iCX7_firstOf_0 8 rfl) kc_1) ?_
      refine s_step (g_iand (iRow iCX7_firstOf_0 9 rfl)) ?_
      refine s_if (g_if_eq (tgt := 18) (iRow iCX7_firstOf_0 10 rfl) (by decide)) (fun _ => ?_) (fun _ => ?_)
      · refine s_step (g_iincc (c := 1) (ls' := [some (vI a1), some (vI (x1 + (1 : Int32)))]) (iRow iCX7_firstOf_0 13 rfl) rfl kc_1 (by decide) rfl) ?_
        refine s_step (g_goto (tgt := 2) (iRow iCX7_firstOf_0 14 rfl) (by decide)) ?_
        exact s_end (fun h => h)
      · refine s_step (g_keep [false, true] rfl) ?_
        exact s_end (fun h => h)
  · intro z
    rcases z with z | z
    · generalize z = x2
      show SW G (d + 0) YX7_firstOf Z 16 [none, some (vI x2)] [] M _ _
      try dsimp only [Sum.elim]
      refine s_step (g_iload_n (iRow iCX7_firstOf_0 11 rfl) rfl rfl) ?_
      exact s_reti (iRow iCX7_firstOf_0 12 rfl) rfl
    · obtain ⟨⟩ := z
      show SW G (d + 0) YX7_firstOf Z 24 [none, none] [] M _ _
      try dsimp only [Sum.elim]
      refine s_step (g_iconst (iRow iCX7_firstOf_0 15 rfl) kc_m1) ?_
      exact s_reti (iRow iCX7_firstOf_0 16 rfl) rfl
abbrev YX7_liveOne : mY := (RX7, "liveOne", cX7_liveOne, 6, none, none)
set_option maxHeartbeats 400000 in
set_option maxRecDepth 20000 in
theorem t_X7_liveOne {G : mg} {F : Nat} {a1 : Nat} {a2 : Int32} {M : mm} {M' : mm} (d : Nat) (h : m_X7_liveOne F a1 a2 M = some M') : CM G yX7_liveOne cX7_liveOne 6 none (d + 5) [vR 8 0, vR 1 a1, vI a2] M none M' := by
  refine ct_v (ls := [some (vR 8 0), some (vR 1 a1), some (vI a2), none, none, none]) rfl rfl (Nat.le_of_ble_eq_true rfl) (fun Z => ?_) h
  show SW G (d + 5) YX7_liveOne Z 0 [some (vR 8 0), some (vR 1 a1), some (vI a2), none, none, none] [] M _ _
  unfold m_X7_liveOne
  refine s_step (g_aload_n (iRow iCX7_liveOne_0 0 rfl) rfl rfl) ?_
  refine s_step (g_getR (iRow iCX7_liveOne_0 1 rfl) f7_12 ko_8 (r_8_1 _ _)) ?_
  refine s_step (g_getI (iRow iCX7_liveOne_0 2 rfl) f7_51 ko_5) ?_
  refine s_nmI (fun x1 => ?_)
  refine s_step (g_istore_n (ls' := [some (vR 8 0), some (vR 1 a1), some (vI a2), some (vI x1), none, none]) (iRow iCX7_liveOne_0 3 rfl) rfl (by decide) rfl) ?_
  refine s_step (g_aload_n (iRow iCX7_liveOne_0 4 rfl) rfl rfl) ?_
  refine s_cl (sf := fun x => vI x :: []) (fun _ _ h => h_V (As := []) (iRow iCX7_liveOne_0 5 rfl) l7_124 iX7_draw ko_8 rfl rfl rfl rfl (t_X7_draw (d + 4) h) rfl (by omega) (by decide) (Nat.le_of_ble_eq_true rfl)) (fun x3 M2 => ?_)
  refine s_step (g_istore (ls' := [some (vR 8 0), some (vR 1 a1), some (vI a2), some (vI x1), some (vI x3), none]) (iRow iCX7_liveOne_0 6 rfl) (by decide) rfl) ?_
  refine s_step (g_iload (iRow iCX7_liveOne_0 7 rfl) rfl) ?_
  refine s_step (g_aload_n (iRow iCX7_liveOne_0 8 rfl) rfl rfl) ?_
  refine s_step (g_getR (iRow iCX7_liveOne_0 9 rfl) f7_128 ko_1 (r_1_2 _ _)) ?_
  refine s_step (g_iload_n (iRow iCX7_liveOne_0 10 rfl) rfl rfl) ?_
  refine s_gi (fun h => g_iald (iRow iCX7_liveOne_0 11 rfl) kn_21 ka_21 h) ?_
  refine s_bd (fun z => LM G (d + 5) YX7_liveOne Z 122 [some (vR 8 0), none, none, some (vI x1), none, none] [] z) ?_ ?_
  · refine s_if (g_icmp_lt (tgt := 87) (iRow iCX7_liveOne_0 12 rfl) (by decide)) (fun _ => ?_) (fun _ => ?_)
    · refine s_step (g_iload (iRow iCX7_liveOne_1 23 rfl) rfl) ?_
      refine s_ifn (g_if_ne (tgt := 122) (iRow iCX7_liveOne_2 0 rfl) (by decide)) (fun _ => ?_) (fun _ => ?_)
      · refine s_step (g_aload_n (iRow iCX7_liveOne_2 1 rfl) rfl rfl) ?_
        refine s_step (g_getR (iRow iCX7_liveOne_2 2 rfl) f7_29 ko_8 (r_8_0 _ _)) ?_
        refine s_step (g_aload_n (iRow iCX7_liveOne_2 3 rfl) rfl rfl) ?_
        refine s_step (g_aload_n (iRow iCX7_liveOne_2 4 rfl) rfl rfl) ?_
        refine s_step (g_getR (iRow iCX7_liveOne_2 5 rfl) f7_12 ko_8 (r_8_1 _ _)) ?_
        refine s_step (g_aload_n (iRow iCX7_liveOne_2 6 rfl) rfl rfl) ?_
        refine s_step (g_getR (iRow iCX7_liveOne_2 7 rfl) f7_131 ko_1 (r_1_4 _ _)) ?_
        refine s_step (g_iload_n (iRow iCX7_liveOne_2 8 rfl) rfl rfl) ?_
        refine s_gi (fun h => g_iald (iRow iCX7_liveOne_2 9 rfl) kn_23 ka_23 h) ?_
        refine s_step (g_aload_n (iRow iCX7_liveOne_2 10 rfl) rfl rfl) ?_
        refine s_step (g_getR (iRow iCX7_liveOne_2 11 rfl) f7_12 ko_8 (r_8_1 _ _)) ?_
        refine s_step (g_getI (iRow iCX7_liveOne_2 12 rfl) f7_137 ko_5) ?_
        refine s_step (g_iand (iRow iCX7_liveOne_2 13 rfl)) ?_
        refine s_cl (sf := fun x => vI x :: [vR 5 2, vR 1 a1, vR 2 0]) (fun _ _ h => h_S (As := [_]) (iRow iCX7_liveOne_2 14 rfl) l7_140 iX7_firstOf rfl rfl (t_X7_firstOf (d + 4) h) rfl (by omega) (by decide) (Nat.le_of_ble_eq_true rfl)) (fun x5 M4 => ?_)
        refine s_cb (sf := fun b => vI (bI b) :: []) (fun _ _ h => h_V (As := [_, _, _]) (iRow iCX7_liveOne_2 15 rfl) l7_90 iX1_pardon ko_2 rfl rfl rfl rfl (t_X1_pardon (d + 0) h) rfl (by omega) (by decide) (Nat.le_of_ble_eq_true rfl)) (fun b7 M6 => ?_)
        refine s_step (g_pop (iRow iCX7_liveOne_2 16 rfl) rfl) ?_
        refine s_step (g_keep [true, false, false, true, false, false] rfl) ?_
        exact s_end (fun h => h)
      · refine s_step (g_keep [true, false, false, true, false, false] rfl) ?_
        exact s_end (fun h => h)
    · refine s_step (g_aload_n (iRow iCX7_liveOne_0 13 rfl) rfl rfl) ?_
      refine s_step (g_getR (iRow iCX7_liveOne_0 14 rfl) f7_131 ko_1 (r_1_4 _ _)) ?_
      refine s_step (g_iload_n (iRow iCX7_liveOne_0 15 rfl) rfl rfl) ?_
      refine s_gi (fun h => g_iald (iRow iCX7_liveOne_0 16 rfl) kn_23 ka_23 h) ?_
      refine s_step (g_aload_n (iRow iCX7_liveOne_0 17 rfl) rfl rfl) ?_
      refine s_step (g_getI (iRow iCX7_liveOne_0 18 rfl) f7_134 ko_1) ?_
      refine s_step (g_iconst (iRow iCX7_liveOne_0 19 rfl) kc_m1) ?_
      refine s_step (g_ixor (iRow iCX7_liveOne_0 20 rfl)) ?_
      refine s_step (g_iand (iRow iCX7_liveOne_0 21 rfl)) ?_
      refine s_step (g_aload_n (iRow iCX7_liveOne_0 22 rfl) rfl rfl) ?_
      refine s_step (g_getR (iRow iCX7_liveOne_0 23 rfl) f7_12 ko_8 (r_8_1 _ _)) ?_
      refine s_step (g_getI (iRow iCX7_liveOne_1 0 rfl) f7_137 ko_5) ?_
      refine s_step (g_iconst (iRow iCX7_liveOne_1 1 rfl) kc_m1) ?_
      refine s_step (g_ixor (iRow iCX7_liveOne_1 2 rfl)) ?_
      refine s_step (g_iand (iRow iCX7_liveOne_1 3 rfl)) ?_
      refine s_nmI (fun x8 => ?_)
      refine s_step (g_istore (ls' := [some (vR 8 0), some (vR 1 a1), some (vI a2), some (vI x1), some (vI x3), some (vI x8)]) (iRow iCX7_liveOne_1 4 rfl) (by decide) rfl) ?_
      refine s_step (g_aload_n (iRow iCX7_liveOne_1 5 rfl) rfl rfl) ?_
      refine s_step (g_dup (iRow iCX7_liveOne_1 6 rfl) rfl) ?_
      refine s_step (g_getI (iRow iCX7_liveOne_1 7 rfl) f7_106 ko_8) ?_
      refine s_step (g_aload_n (iRow iCX7_liveOne_1 8 rfl) rfl rfl) ?_
      refine s_step (g_getR (iRow iCX7_liveOne_1 9 rfl) f7_29 ko_8 (r_8_0 _ _)) ?_
      refine s_step (g_aload_n (iRow iCX7_liveOne_1 10 rfl) rfl rfl) ?_
      refine s_step (g_aload_n (iRow iCX7_liveOne_1 11 rfl) rfl rfl) ?_
      refine s_step (g_getR (iRow iCX7_liveOne_1 12 rfl) f7_12 ko_8 (r_8_1 _ _)) ?_
      refine s_step (g_iload (iRow iCX7_liveOne_1 13 rfl) rfl) ?_
      refine s_cl (sf := fun x => vI x :: [vR 5 2, vR 1 a1, vR 2 0, vI (M2.1 8 0 9), vR 8 0]) (fun _ _ h => h_S (As := [_]) (iRow iCX7_liveOne_1 14 rfl) l7_140 iX7_firstOf rfl rfl (t_X7_firstOf (d + 4) h) rfl (by omega) (by decide) (Nat.le_of_ble_eq_true rfl)) (fun x10 M9 => ?_)
      refine s_cb (sf := fun b => vI (bI b) :: [vI (M2.1 8 0 9), vR 8 0]) (fun _ _ h => h_V (As := [_, _, _]) (iRow iCX7_liveOne_1 15 rfl) l7_143 iX1_crack ko_2 rfl rfl rfl rfl (t_X1_crack (d + 0) h) rfl (by omega) (by decide) (Nat.le_of_ble_eq_true rfl)) (fun b12 M11 => ?_)
      refine s_bd (fun z => LM G (d + 5) YX7_liveOne Z 80 [some (vR 8 0), none, none, some (vI x1), none, none] [vI z, vI (M2.1 8 0 9), vR 8 0] M11) ?_ ?_
      · refine s_ifeqb (g_if_eq (tgt := 79) (iRow iCX7_liveOne_1 16 rfl) (by decide)) (fun _ => ?_) (fun _ => ?_)
        · refine s_step (g_iconst (iRow iCX7_liveOne_1 17 rfl) kc_1) ?_
          refine s_step (g_goto (tgt := 80) (iRow iCX7_liveOne_1 18 rfl) (by decide)) ?_
          refine s_step (g_keep [true, false, false, true, false, false] rfl) ?_
          exact s_end (fun h => h)
        · refine s_step (g_iconst (iRow iCX7_liveOne_1 19 rfl) kc_0) ?_
          refine s_step (g_keep [true, false, false, true, false, false] rfl) ?_
          exact s_end (fun h => h)
      · rintro x13
        show SW G (d + 5) YX7_liveOne Z 80 [some (vR 8 0), none, none, some (vI x1), none, none] [vI x13, vI (M2.1 8 0 9), vR 8 0] M11 _ _
        try dsimp only
        refine s_step (g_iadd (iRow iCX7_liveOne_1 20 rfl)) ?_
        refine s_step (g_putI (iRow iCX7_liveOne_1 21 rfl) f7_106 (Or.inl rfl) ko_8) ?_
        refine s_nmM (fun M14 => ?_)
        refine s_step (g_goto (tgt := 122) (iRow iCX7_liveOne_1 22 rfl) (by decide)) ?_
        exact s_end (fun h => h)
  · rintro M15
    show SW G (d + 5) YX7_liveOne Z 122 [some (vR 8 0), none, none, some (vI x1), none, none] [] M15 _ _
    try dsimp only
    refine s_step (g_aload_n (iRow iCX7_liveOne_2 17 rfl) rfl rfl) ?_
    refine s_step (g_dup (iRow iCX7_liveOne_2 18 rfl) rfl) ?_
    refine s_step (g_getI (iRow iCX7_liveOne_2 19 rfl) f7_109 ko_8) ?_
    refine s_step (g_iload_n (iRow iCX7_liveOne_2 20 rfl) rfl rfl) ?_
    refine s_step (g_aload_n (iRow iCX7_liveOne_2 21 rfl) rfl rfl) ?_
    refine s_step (g_getR (iRow iCX7_liveOne_2 22 rfl) f7_12 ko_8 (r_8_1 _ _)) ?_
    refine s_step (g_getI (iRow iCX7_liveOne_2 23 rfl) f7_51 ko_5) ?_
    refine s_step (g_iconst (iRow iCX7_liveOne_3 0 rfl) kc_m1) ?_
    refine s_step (g_ixor (iRow iCX7_liveOne_3 1 rfl)) ?_
    refine s_step (g_iand (iRow iCX7_liveOne_3 2 rfl)) ?_
    refine s_cl (sf := fun x => vI x :: [vI (M15.1 8 0 10), vR 8 0]) (fun _ _ h => h_S (As := [_]) (iRow iCX7_liveOne_3 3 rfl) l7_119 iJ6_bitCount_0f7a4 rfl rfl (t_J6_bitCount_0f7a4 (d + 4) h) rfl (by omega) (by decide) (Nat.le_of_ble_eq_true rfl)) (fun x17 M16 => ?_)
    refine s_step (g_iadd (iRow iCX7_liveOne_3 4 rfl)) ?_
    refine s_step (g_putI (iRow iCX7_liveOne_3 5 rfl) f7_109 (Or.inl rfl) ko_8) ?_
    refine s_nmM (fun M18 => ?_)
    exact s_retv (iRow iCX7_liveOne_3 6 rfl) rfl
abbrev YX7_live : mY := (RX7, "live", cX7_live, 8, none, none)
set_option maxHeartbeats 400000 in
set_option maxRecDepth 20000 in
theorem t_X7_live {G : mg} {F : Nat} {a1 : Nat} {a2 : Nat} {a3 : Int32} {a4 : Int32} {M : mm} {M' : mm} (d : Nat) (h : m_X7_live F a1 a2 a3 a4 M = some M') : CM G yX7_live cX7_live 8 none (d + 6) [vR 8 0, vR 1 a1, vR 5 a2, vI a3, vI a4] M none M' := by
  refine ct_v (ls := [some (vR 8 0), some (vR 1 a1), some (vR 5 a2), some (vI a3), some (vI a4), none, none, none]) rfl rfl (Nat.le_of_ble_eq_true rfl) (fun Z => ?_) h
  show SW G (d + 6) YX7_live Z 0 [some (vR 8 0), some (vR 1 a1), some (vR 5 a2), some (vI a3), some (vI a4), none, none, none] [] M _ _
  unfold m_X7_live
  refine s_step (g_aload_n (iRow iCX7_live_0 0 rfl) rfl rfl) ?_
  refine s_step (g_getR (iRow iCX7_live_0 1 rfl) f7_12 ko_8 (r_8_1 _ _)) ?_
  refine s_step (g_aload_n (iRow iCX7_live_0 2 rfl) rfl rfl) ?_
  refine s_cv (stA := []) (fun _ h => h_V (As := [_]) (iRow iCX7_live_0 3 rfl) l7_69 iX4_copy ko_5 rfl rfl rfl rfl (t_X4_copy (d + 5) h) rfl (by omega) (by decide) (Nat.le_of_ble_eq_true rfl)) (fun M1 => ?_)
  refine s_step (g_aload_n (iRow iCX7_live_0 4 rfl) rfl rfl) ?_
  refine s_step (g_iload_n (iRow iCX7_live_0 5 rfl) rfl rfl) ?_
  refine s_step (g_putI (iRow iCX7_live_0 6 rfl) f7_103 (Or.inl rfl) ko_8) ?_
  refine s_nmM (fun M2 => ?_)
  refine s_step (g_aload_n (iRow iCX7_live_0 7 rfl) rfl rfl) ?_
  refine s_step (g_iconst (iRow iCX7_live_0 8 rfl) kc_0) ?_
  refine s_step (g_putI (iRow iCX7_live_0 9 rfl) f7_106 (Or.inl rfl) ko_8) ?_
  refine s_nmM (fun M3 => ?_)
  refine s_step (g_aload_n (iRow iCX7_live_0 10 rfl) rfl rfl) ?_
  refine s_step (g_iconst (iRow iCX7_live_0 11 rfl) kc_0) ?_
  refine s_step (g_putI (iRow iCX7_live_0 12 rfl) f7_109 (Or.inl rfl) ko_8) ?_
  refine s_nmM (fun M4 => ?_)
  refine s_step (g_iconst (iRow iCX7_live_0 13 rfl) kc_0) ?_
  refine s_step (g_istore (ls' := [some (vR 8 0), some (vR 1 a1), some (vR 5 a2), some (vI a3), some (vI a4), some (vI (0 : Int32)), none, none]) (iRow iCX7_live_0 14 rfl) (by decide) rfl) ?_
  refine s_step (g_keep [true, true, false, false, true, true, false, false] rfl) ?_
  refine s_lp (fun z => [some (vR 8 0), some (vR 1 a1), none, none, some (vI a4), some (vI (z.1)), none, none]) (fun z => z.2) (fun z => LM G (d + 6) YX7_live Z 142 [some (vR 8 0), none, none, none, none, none, none, none] [] z) rfl rfl ?_ ?_
  · rintro ⟨x5, M6⟩
    show SW G (d + 6) YX7_live Z 26 [some (vR 8 0), some (vR 1 a1), none, none, some (vI a4), some (vI x5), none, none] [] M6 (b_X7_live_1c F a1 a4 x5 M6) _
    unfold b_X7_live_1c
    refine s_step (g_iload (iRow iCX7_live_0 15 rfl) rfl) ?_
    refine s_step (g_iload (iRow iCX7_live_0 16 rfl) rfl) ?_
    refine s_if (g_icmp_ge (tgt := 142) (iRow iCX7_live_0 17 rfl) (by decide)) (fun _ => ?_) (fun _ => ?_)
    · refine s_step (g_keep [true, false, false, false, false, false, false, false] rfl) ?_
      exact s_end (fun h => h)
    · refine s_step (g_iconst (iRow iCX7_live_0 18 rfl) kc_0) ?_
      refine s_step (g_istore (ls' := [some (vR 8 0), some (vR 1 a1), none, none, some (vI a4), some (vI x5), some (vI (0 : Int32)), none]) (iRow iCX7_live_0 19 rfl) (by decide) rfl) ?_
      refine s_lp (fun z => [some (vR 8 0), some (vR 1 a1), none, none, some (vI a4), some (vI x5), some (vI (z.1)), none]) (fun z => z.2) (fun z => LM G (d + 6) YX7_live Z 58 [some (vR 8 0), some (vR 1 a1), none, none, some (vI a4), some (vI x5), none, none] [] z) rfl rfl ?_ ?_
      · rintro ⟨x7, M8⟩
        show SW G (d + 6) YX7_live Z 36 [some (vR 8 0), some (vR 1 a1), none, none, some (vI a4), some (vI x5), some (vI x7), none] [] M8 (b_X7_live_2c F a1 x7 M8) _
        unfold b_X7_live_2c
        refine s_step (g_iload (iRow iCX7_live_0 20 rfl) rfl) ?_
        refine s_step (g_aload_n (iRow iCX7_live_0 21 rfl) rfl rfl) ?_
        refine s_step (g_getI (iRow iCX7_live_0 22 rfl) f7_112 ko_1) ?_
        refine s_if (g_icmp_ge (tgt := 58) (iRow iCX7_live_0 23 rfl) (by decide)) (fun _ => ?_) (fun _ => ?_)
        · refine s_step (g_keep [true, true, false, false, true, true, false, false] rfl) ?_
          exact s_end (fun h => h)
        · refine s_step (g_aload_n (iRow iCX7_live_1 0 rfl) rfl rfl) ?_
          refine s_step (g_aload_n (iRow iCX7_live_1 1 rfl) rfl rfl) ?_
          refine s_step (g_iload (iRow iCX7_live_1 2 rfl) rfl) ?_
          refine s_cv (stA := []) (fun _ h => h_V (As := [_, _]) (iRow iCX7_live_1 3 rfl) l7_115 iX7_liveOne ko_8 rfl rfl rfl rfl (t_X7_liveOne (d + 0) h) rfl (by omega) (by decide) (Nat.le_of_ble_eq_true rfl)) (fun M9 => ?_)
          refine s_step (g_iincc (c := 1) (ls' := [some (vR 8 0), some (vR 1 a1), none, none, some (vI a4), some (vI x5), some (vI (x7 + (1 : Int32))), none]) (iRow iCX7_live_1 4 rfl) rfl kc_1 (by decide) rfl) ?_
          refine s_step (g_goto (tgt := 36) (iRow iCX7_live_1 5 rfl) (by decide)) ?_
          exact s_end (fun h => h)
      · rintro M10
        show SW G (d + 6) YX7_live Z 58 [some (vR 8 0), some (vR 1 a1), none, none, some (vI a4), some (vI x5), none, none] [] M10 _ _
        try dsimp only
        refine s_step (g_aload_n (iRow iCX7_live_1 6 rfl) rfl rfl) ?_
        refine s_step (g_getR (iRow iCX7_live_1 7 rfl) f7_12 ko_8 (r_8_1 _ _)) ?_
        refine s_step (g_getI (iRow iCX7_live_1 8 rfl) f7_51 ko_5) ?_
        refine s_nmI (fun x11 => ?_)
        refine s_step (g_istore (ls' := [some (vR 8 0), some (vR 1 a1), none, none, some (vI a4), some (vI x5), some (vI x11), none]) (iRow iCX7_live_1 9 rfl) (by decide) rfl) ?_
        refine s_step (g_aload_n (iRow iCX7_live_1 10 rfl) rfl rfl) ?_
        refine s_step (g_getR (iRow iCX7_live_1 11 rfl) f7_29 ko_8 (r_8_0 _ _)) ?_
        refine s_step (g_aload_n (iRow iCX7_live_1 12 rfl) rfl rfl) ?_
        refine s_step (g_aload_n (iRow iCX7_live_1 13 rfl) rfl rfl) ?_
        refine s_step (g_getR (iRow iCX7_live_1 14 rfl) f7_12 ko_8 (r_8_1 _ _)) ?_
        refine s_cv (stA := []) (fun _ h => h_V (As := [_, _]) (iRow iCX7_live_1 15 rfl) l7_100 iX1_pass ko_2 rfl rfl rfl rfl (t_X1_pass (d + 1) h) rfl (by omega) (by decide) (Nat.le_of_ble_eq_true rfl)) (fun M12 => ?_)
        refine s_step (g_aload_n (iRow iCX7_live_1 16 rfl) rfl rfl) ?_
        refine s_step (g_dup (iRow iCX7_live_1 17 rfl) rfl) ?_
        refine s_step (g_getI (iRow iCX7_live_1 18 rfl) f7_109 ko_8) ?_
        refine s_step (g_iload (iRow iCX7_live_1 19 rfl) rfl) ?_
        refine s_step (g_aload_n (iRow iCX7_live_1 20 rfl) rfl rfl) ?_
        refine s_step (g_getR (iRow iCX7_live_1 21 rfl) f7_12 ko_8 (r_8_1 _ _)) ?_
        refine s_step (g_getI (iRow iCX7_live_1 22 rfl) f7_51 ko_5) ?_
        refine s_step (g_iconst (iRow iCX7_live_1 23 rfl) kc_m1) ?_
        refine s_step (g_ixor (iRow iCX7_live_2 0 rfl)) ?_
        refine s_step (g_iand (iRow iCX7_live_2 1 rfl)) ?_
        refine s_cl (sf := fun x => vI x :: [vI (M12.1 8 0 10), vR 8 0]) (fun _ _ h => h_S (As := [_]) (iRow iCX7_live_2 2 rfl) l7_119 iJ6_bitCount_0f7a4 rfl rfl (t_J6_bitCount_0f7a4 (d + 5) h) rfl (by omega) (by decide) (Nat.le_of_ble_eq_true rfl)) (fun x14 M13 => ?_)
        refine s_step (g_iadd (iRow iCX7_live_2 3 rfl)) ?_
        refine s_step (g_putI (iRow iCX7_live_2 4 rfl) f7_109 (Or.inl rfl) ko_8) ?_
        refine s_nmM (fun M15 => ?_)
        refine s_step (g_iconst (iRow iCX7_live_2 5 rfl) kc_0) ?_
        refine s_step (g_istore (ls' := [some (vR 8 0), some (vR 1 a1), none, none, some (vI a4), some (vI x5), some (vI x11), some (vI (0 : Int32))]) (iRow iCX7_live_2 6 rfl) (by decide) rfl) ?_
        refine s_step (g_keep [true, true, false, false, true, true, false, true] rfl) ?_
        refine s_lp (fun z => [some (vR 8 0), some (vR 1 a1), none, none, some (vI a4), some (vI x5), none, some (vI (z.1))]) (fun z => z.2) (fun z => LM G (d + 6) YX7_live Z 136 [some (vR 8 0), some (vR 1 a1), none, none, some (vI a4), some (vI x5), none, none] [] z) rfl rfl ?_ ?_
        · rintro ⟨x16, M17⟩
          show SW G (d + 6) YX7_live Z 106 [some (vR 8 0), some (vR 1 a1), none, none, some (vI a4), some (vI x5), none, some (vI x16)] [] M17 (b_X7_live_3c F a1 x16 M17) _
          unfold b_X7_live_3c
          refine s_step (g_iload (iRow iCX7_live_2 7 rfl) rfl) ?_
          refine s_step (g_aload_n (iRow iCX7_live_2 8 rfl) rfl rfl) ?_
          refine s_step (g_getI (iRow iCX7_live_2 9 rfl) f7_94 ko_1) ?_
          refine s_if (g_icmp_ge (tgt := 136) (iRow iCX7_live_2 10 rfl) (by decide)) (fun _ => ?_) (fun _ => ?_)
          · refine s_step (g_keep [true, true, false, false, true, true, false, false] rfl) ?_
            exact s_end (fun h => h)
          · refine s_step (g_aload_n (iRow iCX7_live_2 11 rfl) rfl rfl) ?_
            refine s_step (g_getR (iRow iCX7_live_2 12 rfl) f7_29 ko_8 (r_8_0 _ _)) ?_
            refine s_step (g_aload_n (iRow iCX7_live_2 13 rfl) rfl rfl) ?_
            refine s_step (g_aload_n (iRow iCX7_live_2 14 rfl) rfl rfl) ?_
            refine s_step (g_getR (iRow iCX7_live_2 15 rfl) f7_12 ko_8 (r_8_1 _ _)) ?_
            refine s_step (g_iload (iRow iCX7_live_2 16 rfl) rfl) ?_
            refine s_cb (sf := fun b => vI (bI b) :: []) (fun _ _ h => h_V (As := [_, _, _]) (iRow iCX7_live_2 17 rfl) l7_97 iX1_lift ko_2 rfl rfl rfl rfl (t_X1_lift (d + 1) h) rfl (by omega) (by decide) (Nat.le_of_ble_eq_true rfl)) (fun b19 M18 => ?_)
            refine s_step (g_pop (iRow iCX7_live_2 18 rfl) rfl) ?_
            refine s_step (g_iincc (c := 1) (ls' := [some (vR 8 0), some (vR 1 a1), none, none, some (vI a4), some (vI x5), none, some (vI (x16 + (1 : Int32)))]) (iRow iCX7_live_2 19 rfl) rfl kc_1 (by decide) rfl) ?_
            refine s_step (g_goto (tgt := 106) (iRow iCX7_live_2 20 rfl) (by decide)) ?_
            exact s_end (fun h => h)
        · rintro M20
          show SW G (d + 6) YX7_live Z 136 [some (vR 8 0), some (vR 1 a1), none, none, some (vI a4), some (vI x5), none, none] [] M20 _ _
          try dsimp only
          refine s_step (g_iincc (c := 1) (ls' := [some (vR 8 0), some (vR 1 a1), none, none, some (vI a4), some (vI (x5 + (1 : Int32))), none, none]) (iRow iCX7_live_2 21 rfl) rfl kc_1 (by decide) rfl) ?_
          refine s_step (g_goto (tgt := 26) (iRow iCX7_live_2 22 rfl) (by decide)) ?_
          exact s_end (fun h => h)
  · rintro M21
    show SW G (d + 6) YX7_live Z 142 [some (vR 8 0), none, none, none, none, none, none, none] [] M21 _ _
    try dsimp only
    refine s_step (g_aload_n (iRow iCX7_live_2 23 rfl) rfl rfl) ?_
    refine s_step (g_aload_n (iRow iCX7_live_3 0 rfl) rfl rfl) ?_
    refine s_step (g_getR (iRow iCX7_live_3 1 rfl) f7_12 ko_8 (r_8_1 _ _)) ?_
    refine s_step (g_getI (iRow iCX7_live_3 2 rfl) f7_51 ko_5) ?_
    refine s_step (g_putI (iRow iCX7_live_3 3 rfl) f7_63 (Or.inl rfl) ko_8) ?_
    refine s_nmM (fun M22 => ?_)
    exact s_retv (iRow iCX7_live_3 4 rfl) rfl
abbrev YX11_centuries : mY := (RX11, "centuries", cX11_centuries, 4, (some .int), none)
set_option maxHeartbeats 400000 in
set_option maxRecDepth 20000 in
theorem t_X11_centuries {G : mg} {F : Nat} {a1 : Int32} {a2 : Int32} {a3 : Int32} {M : mm} {x : Int32} {M' : mm} (d : Nat) (h : m_X11_centuries F a1 a2 a3 M = some (x, M')) : CM G yX11_centuries cX11_centuries 4 (some .int) (d + 7) [vR 12 0, vI a1, vI a2, vI a3] M (some (vI x)) M' := by
  refine ct_i (ls := [some (vR 12 0), some (vI a1), some (vI a2), some (vI a3)]) rfl rfl (Nat.le_of_ble_eq_true rfl) (fun Z => ?_) h
  show SW G (d + 7) YX11_centuries Z 0 [some (vR 12 0), some (vI a1), some (vI a2), some (vI a3)] [] M _ _
  unfold m_X11_centuries
  refine s_step (g_iload_n (iRow iCX11_centuries_0 0 rfl) rfl rfl) ?_
  refine s_if (g_if_lt (tgt := 31) (iRow iCX11_centuries_0 1 rfl) (by decide)) (fun _ => ?_) (fun _ => ?_)
  · refine s_step (g_iconst (iRow iCX11_centuries_0 16 rfl) kc_m1) ?_
    exact s_reti (iRow iCX11_centuries_0 17 rfl) rfl
  · refine s_step (g_iload_n (iRow iCX11_centuries_0 2 rfl) rfl rfl) ?_
    refine s_step (g_sipush (iRow iCX11_centuries_0 3 rfl) ks_9999) ?_
    refine s_if (g_icmp_gt (tgt := 31) (iRow iCX11_centuries_0 4 rfl) (by decide)) (fun _ => ?_) (fun _ => ?_)
    · refine s_step (g_iconst (iRow iCX11_centuries_0 16 rfl) kc_m1) ?_
      exact s_reti (iRow iCX11_centuries_0 17 rfl) rfl
    · refine s_step (g_iload_n (iRow iCX11_centuries_0 5 rfl) rfl rfl) ?_
      refine s_step (g_iconst (iRow iCX11_centuries_0 6 rfl) kc_1) ?_
      refine s_if (g_icmp_lt (tgt := 31) (iRow iCX11_centuries_0 7 rfl) (by decide)) (fun _ => ?_) (fun _ => ?_)
      · refine s_step (g_iconst (iRow iCX11_centuries_0 16 rfl) kc_m1) ?_
        exact s_reti (iRow iCX11_centuries_0 17 rfl) rfl
      · refine s_step (g_iload_n (iRow iCX11_centuries_0 8 rfl) rfl rfl) ?_
        refine s_step (g_bipush (iRow iCX11_centuries_0 9 rfl) kb_100) ?_
        refine s_if (g_icmp_gt (tgt := 31) (iRow iCX11_centuries_0 10 rfl) (by decide)) (fun _ => ?_) (fun _ => ?_)
        · refine s_step (g_iconst (iRow iCX11_centuries_0 16 rfl) kc_m1) ?_
          exact s_reti (iRow iCX11_centuries_0 17 rfl) rfl
        · refine s_step (g_iload_n (iRow iCX11_centuries_0 11 rfl) rfl rfl) ?_
          refine s_if (g_if_lt (tgt := 31) (iRow iCX11_centuries_0 12 rfl) (by decide)) (fun _ => ?_) (fun _ => ?_)
          · refine s_step (g_iconst (iRow iCX11_centuries_0 16 rfl) kc_m1) ?_
            exact s_reti (iRow iCX11_centuries_0 17 rfl) rfl
          · refine s_step (g_iload_n (iRow iCX11_centuries_0 13 rfl) rfl rfl) ?_
            refine s_step (g_iconst (iRow iCX11_centuries_0 14 rfl) kc_2) ?_
            refine s_if (g_icmp_le (tgt := 33) (iRow iCX11_centuries_0 15 rfl) (by decide)) (fun _ => ?_) (fun _ => ?_)
            · refine s_step (g_aload_n (iRow iCX11_centuries_0 18 rfl) rfl rfl) ?_
              refine s_step (g_getR (iRow iCX11_centuries_0 19 rfl) f11_75 ko_12 (r_12_5 _ _)) ?_
              refine s_step (g_aload_n (iRow iCX11_centuries_0 20 rfl) rfl rfl) ?_
              refine s_step (g_getR (iRow iCX11_centuries_0 21 rfl) f11_10 ko_12 (r_12_6 _ _)) ?_
              refine s_step (g_aload_n (iRow iCX11_centuries_0 22 rfl) rfl rfl) ?_
              refine s_step (g_getR (iRow iCX11_centuries_0 23 rfl) f11_82 ko_12 (r_12_8 _ _)) ?_
              refine s_step (g_iload_n (iRow iCX11_centuries_1 0 rfl) rfl rfl) ?_
              refine s_step (g_iload_n (iRow iCX11_centuries_1 1 rfl) rfl rfl) ?_
              refine s_cv (stA := []) (fun _ h => h_V (As := [_, _, _, _]) (iRow iCX11_centuries_1 2 rfl) l11_330 iX7_live ko_8 rfl rfl rfl rfl (t_X7_live (d + 0) h) rfl (by omega) (by decide) (Nat.le_of_ble_eq_true rfl)) (fun M1 => ?_)
              refine s_step (g_iload_n (iRow iCX11_centuries_1 3 rfl) rfl rfl) ?_
              refine s_ifn (g_if_ne (tgt := 62) (iRow iCX11_centuries_1 4 rfl) (by decide)) (fun _ => ?_) (fun _ => ?_)
              · refine s_step (g_aload_n (iRow iCX11_centuries_1 5 rfl) rfl rfl) ?_
                refine s_step (g_getR (iRow iCX11_centuries_1 6 rfl) f11_75 ko_12 (r_12_5 _ _)) ?_
                refine s_step (g_getI (iRow iCX11_centuries_1 7 rfl) f11_334 ko_8) ?_
                exact s_reti (iRow iCX11_centuries_1 8 rfl) rfl
              · refine s_step (g_iload_n (iRow iCX11_centuries_1 9 rfl) rfl rfl) ?_
                refine s_step (g_iconst (iRow iCX11_centuries_1 10 rfl) kc_1) ?_
                refine s_ifn (g_icmp_ne (tgt := 77) (iRow iCX11_centuries_1 11 rfl) (by decide)) (fun _ => ?_) (fun _ => ?_)
                · refine s_step (g_aload_n (iRow iCX11_centuries_1 12 rfl) rfl rfl) ?_
                  refine s_step (g_getR (iRow iCX11_centuries_1 13 rfl) f11_75 ko_12 (r_12_5 _ _)) ?_
                  refine s_step (g_getI (iRow iCX11_centuries_1 14 rfl) f11_337 ko_8) ?_
                  refine s_step (g_goto (tgt := 84) (iRow iCX11_centuries_1 15 rfl) (by decide)) ?_
                  exact s_reti (iRow iCX11_centuries_1 19 rfl) rfl
                · refine s_step (g_aload_n (iRow iCX11_centuries_1 16 rfl) rfl rfl) ?_
                  refine s_step (g_getR (iRow iCX11_centuries_1 17 rfl) f11_75 ko_12 (r_12_5 _ _)) ?_
                  refine s_step (g_getI (iRow iCX11_centuries_1 18 rfl) f11_234 ko_8) ?_
                  exact s_reti (iRow iCX11_centuries_1 19 rfl) rfl
            · refine s_step (g_iconst (iRow iCX11_centuries_0 16 rfl) kc_m1) ?_
              exact s_reti (iRow iCX11_centuries_0 17 rfl) rfl
abbrev YX8_copy : mY := (RX8, "copy", cX8_copy, 2, none, none)
set_option maxHeartbeats 400000 in
set_option maxRecDepth 20000 in
theorem t_X8_copy {G : mg} {F : Nat} {o : Nat} {a1 : Nat} {M : mm} {M' : mm} (d : Nat) (h : m_X8_copy F o a1 M = some M') : CM G yX8_copy cX8_copy 2 none (d + 1) [vR 9 o, vR 9 a1] M none M' := by
  refine ct_v (ls := [some (vR 9 o), some (vR 9 a1)]) rfl rfl (Nat.le_of_ble_eq_true rfl) (fun Z => ?_) h
  show SW G (d + 1) YX8_copy Z 0 [some (vR 9 o), some (vR 9 a1)] [] M _ _
  unfold m_X8_copy
  refine s_step (g_aload_n (iRow iCX8_copy_0 0 rfl) rfl rfl) ?_
  refine s_step (g_aload_n (iRow iCX8_copy_0 1 rfl) rfl rfl) ?_
  refine s_cv (stA := []) (fun _ h => h_V (As := [_]) (iRow iCX8_copy_0 2 rfl) l8_31 iX8_copyLife ko_9 rfl rfl rfl rfl (t_X8_copyLife (d + 0) h) rfl (by omega) (by decide) (Nat.le_of_ble_eq_true rfl)) (fun M1 => ?_)
  refine s_step (g_aload_n (iRow iCX8_copy_0 3 rfl) rfl rfl) ?_
  refine s_step (g_aload_n (iRow iCX8_copy_0 4 rfl) rfl rfl) ?_
  refine s_step (g_getI (iRow iCX8_copy_0 5 rfl) f8_22 ko_9) ?_
  refine s_step (g_putI (iRow iCX8_copy_0 6 rfl) f8_22 (Or.inl rfl) ko_9) ?_
  refine s_nmM (fun M2 => ?_)
  refine s_step (g_aload_n (iRow iCX8_copy_0 7 rfl) rfl rfl) ?_
  refine s_step (g_aload_n (iRow iCX8_copy_0 8 rfl) rfl rfl) ?_
  refine s_step (g_getI (iRow iCX8_copy_0 9 rfl) f8_25 ko_9) ?_
  refine s_step (g_putI (iRow iCX8_copy_0 10 rfl) f8_25 (Or.inl rfl) ko_9) ?_
  refine s_nmM (fun M3 => ?_)
  refine s_step (g_aload_n (iRow iCX8_copy_0 11 rfl) rfl rfl) ?_
  refine s_step (g_aload_n (iRow iCX8_copy_0 12 rfl) rfl rfl) ?_
  refine s_step (g_getI (iRow iCX8_copy_0 13 rfl) f8_28 ko_9) ?_
  refine s_step (g_putI (iRow iCX8_copy_0 14 rfl) f8_28 (Or.inl rfl) ko_9) ?_
  refine s_nmM (fun M4 => ?_)
  exact s_retv (iRow iCX8_copy_0 15 rfl) rfl
