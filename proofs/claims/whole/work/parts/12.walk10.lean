abbrev YX12_sure : mY := (RX12, "sure", cX12_sure, 2, (some .int), none)
set_option maxHeartbeats 400000 in
set_option maxRecDepth 20000 in
theorem t_X12_sure {G : mg} {F : Nat} {a1 : Int32} {M : mm} {x : Int32} {M' : mm} (d : Nat) (h : m_X12_sure F a1 M = some (x, M')) : CM G yX12_sure cX12_sure 2 (some .int) (d + 8) [vR 13 0, vI a1] M (some (vI x)) M' := by
  refine ct_i (ls := [some (vR 13 0), some (vI a1)]) rfl rfl (Nat.le_of_ble_eq_true rfl) (fun Z => ?_) h
  show SW G (d + 8) YX12_sure Z 0 [some (vR 13 0), some (vI a1)] [] M _ _
  unfold m_X12_sure
  refine s_step (g_aload_n (iRow iCX12_sure_0 0 rfl) rfl rfl) ?_
  refine s_step (g_iconst (iRow iCX12_sure_0 1 rfl) kc_0) ?_
  refine s_step (g_putI (iRow iCX12_sure_0 2 rfl) f12_157 (Or.inl rfl) ko_13) ?_
  refine s_nmM (fun M1 => ?_)
  refine s_step (g_aload_n (iRow iCX12_sure_0 3 rfl) rfl rfl) ?_
  refine s_step (g_iload_n (iRow iCX12_sure_0 4 rfl) rfl rfl) ?_
  refine s_cb (sf := fun b => vI (bI b) :: []) (fun _ _ h => h_V (As := [_]) (iRow iCX12_sure_0 5 rfl) l12_425 iX12_isStone ko_13 rfl rfl rfl rfl (t_X12_isStone (d + 7) h) rfl (by omega) (by decide) (Nat.le_of_ble_eq_true rfl)) (fun b3 M2 => ?_)
  refine s_ifeqb (g_if_eq (tgt := 35) (iRow iCX12_sure_0 6 rfl) (by decide)) (fun _ => ?_) (fun _ => ?_)
  · refine s_step (g_aload_n (iRow iCX12_sure_0 7 rfl) rfl rfl) ?_
    refine s_step (g_getR (iRow iCX12_sure_0 8 rfl) f12_123 ko_13 (r_13_49 _ _)) ?_
    refine s_step (g_iconst (iRow iCX12_sure_0 9 rfl) kc_3) ?_
    refine s_gi (fun h => g_iald (iRow iCX12_sure_0 10 rfl) kn_100 ka_100 h) ?_
    refine s_step (g_iload_n (iRow iCX12_sure_0 11 rfl) rfl rfl) ?_
    refine s_step (g_ishr (iRow iCX12_sure_0 12 rfl)) ?_
    refine s_step (g_iconst (iRow iCX12_sure_0 13 rfl) kc_1) ?_
    refine s_step (g_iand (iRow iCX12_sure_0 14 rfl)) ?_
    refine s_step (g_iconst (iRow iCX12_sure_0 15 rfl) kc_1) ?_
    refine s_ifn (g_icmp_ne (tgt := 35) (iRow iCX12_sure_0 16 rfl) (by decide)) (fun _ => ?_) (fun _ => ?_)
    · refine s_step (g_aload_n (iRow iCX12_sure_0 17 rfl) rfl rfl) ?_
      refine s_step (g_iload_n (iRow iCX12_sure_0 18 rfl) rfl rfl) ?_
      refine s_cl (sf := fun x => vI x :: []) (fun _ _ h => h_V (As := [_]) (iRow iCX12_sure_0 19 rfl) l12_473 iX12_sureOf ko_13 rfl rfl rfl rfl (t_X12_sureOf (d + 0) h) rfl (by omega) (by decide) (Nat.le_of_ble_eq_true rfl)) (fun x5 M4 => ?_)
      refine s_step (g_goto (tgt := 36) (iRow iCX12_sure_0 20 rfl) (by decide)) ?_
      exact s_reti (iRow iCX12_sure_0 22 rfl) rfl
    · refine s_step (g_iconst (iRow iCX12_sure_0 21 rfl) kc_m1) ?_
      exact s_reti (iRow iCX12_sure_0 22 rfl) rfl
  · refine s_step (g_iconst (iRow iCX12_sure_0 21 rfl) kc_m1) ?_
    exact s_reti (iRow iCX12_sure_0 22 rfl) rfl
abbrev YX12_surest : mY := (RX12, "surest", cX12_surest, 9, (some .int), none)
set_option maxHeartbeats 400000 in
set_option maxRecDepth 20000 in
theorem t_X12_surest {G : mg} {F : Nat} {a1 : Int32} {a2 : Int32} {M : mm} {x : Int32} {M' : mm} (d : Nat) (h : m_X12_surest F a1 a2 M = some (x, M')) : CM G yX12_surest cX12_surest 9 (some .int) (d + 8) [vR 13 0, vI a1, vI a2] M (some (vI x)) M' := by
  refine ct_i (ls := [some (vR 13 0), some (vI a1), some (vI a2), none, none, none, none, none, none]) rfl rfl (Nat.le_of_ble_eq_true rfl) (fun Z => ?_) h
  show SW G (d + 8) YX12_surest Z 0 [some (vR 13 0), some (vI a1), some (vI a2), none, none, none, none, none, none] [] M _ _
  unfold m_X12_surest
  refine s_step (g_aload_n (iRow iCX12_surest_0 0 rfl) rfl rfl) ?_
  refine s_step (g_iconst (iRow iCX12_surest_0 1 rfl) kc_0) ?_
  refine s_step (g_putI (iRow iCX12_surest_0 2 rfl) f12_157 (Or.inl rfl) ko_13) ?_
  refine s_nmM (fun M1 => ?_)
  refine s_step (g_iload_n (iRow iCX12_surest_0 3 rfl) rfl rfl) ?_
  refine s_step (g_iconst (iRow iCX12_surest_0 4 rfl) kc_0) ?_
  refine s_step (g_bipush (iRow iCX12_surest_0 5 rfl) kb_99) ?_
  refine s_cb (sf := fun b => vI (bI b) :: []) (fun _ _ h => h_S (As := [_, _, _]) (iRow iCX12_surest_0 6 rfl) l12_291 iX12_within rfl rfl (t_X12_within (d + 7) h) rfl (by omega) (by decide) (Nat.le_of_ble_eq_true rfl)) (fun b3 M2 => ?_)
  refine s_ifeqb (g_if_eq (tgt := 24) (iRow iCX12_surest_0 7 rfl) (by decide)) (fun _ => ?_) (fun _ => ?_)
  · refine s_step (g_iload_n (iRow iCX12_surest_0 8 rfl) rfl rfl) ?_
    refine s_step (g_iconst (iRow iCX12_surest_0 9 rfl) kc_0) ?_
    refine s_step (g_iconst (iRow iCX12_surest_0 10 rfl) kc_1) ?_
    refine s_cb (sf := fun b => vI (bI b) :: []) (fun _ _ h => h_S (As := [_, _, _]) (iRow iCX12_surest_0 11 rfl) l12_291 iX12_within rfl rfl (t_X12_within (d + 7) h) rfl (by omega) (by decide) (Nat.le_of_ble_eq_true rfl)) (fun b5 M4 => ?_)
    refine s_ifneb (g_if_ne (tgt := 26) (iRow iCX12_surest_0 12 rfl) (by decide)) (fun _ => ?_) (fun _ => ?_)
    · refine s_step (g_aload_n (iRow iCX12_surest_0 15 rfl) rfl rfl) ?_
      refine s_step (g_getR (iRow iCX12_surest_0 16 rfl) f12_13 ko_13 (r_13_10 _ _)) ?_
      refine s_step (g_iconst (iRow iCX12_surest_0 17 rfl) kc_2) ?_
      refine s_gi (fun h => g_iald (iRow iCX12_surest_0 18 rfl) kn_64 ka_64 h) ?_
      refine s_nmI (fun x6 => ?_)
      refine s_step (g_istore_n (ls' := [some (vR 13 0), some (vI a1), some (vI a2), some (vI x6), none, none, none, none, none]) (iRow iCX12_surest_0 19 rfl) rfl (by decide) rfl) ?_
      refine s_step (g_iconst (iRow iCX12_surest_0 20 rfl) kc_m1) ?_
      refine s_step (g_istore (ls' := [some (vR 13 0), some (vI a1), some (vI a2), some (vI x6), some (vI (-1 : Int32)), none, none, none, none]) (iRow iCX12_surest_0 21 rfl) (by decide) rfl) ?_
      refine s_step (g_iconst (iRow iCX12_surest_0 22 rfl) kc_0) ?_
      refine s_step (g_istore (ls' := [some (vR 13 0), some (vI a1), some (vI a2), some (vI x6), some (vI (-1 : Int32)), some (vI (0 : Int32)), none, none, none]) (iRow iCX12_surest_0 23 rfl) (by decide) rfl) ?_
      refine s_step (g_aload_n (iRow iCX12_surest_1 0 rfl) rfl rfl) ?_
      refine s_step (g_getR (iRow iCX12_surest_1 1 rfl) f12_123 ko_13 (r_13_49 _ _)) ?_
      refine s_step (g_iconst (iRow iCX12_surest_1 2 rfl) kc_3) ?_
      refine s_gi (fun h => g_iald (iRow iCX12_surest_1 3 rfl) kn_100 ka_100 h) ?_
      refine s_nmI (fun x7 => ?_)
      refine s_step (g_istore (ls' := [some (vR 13 0), some (vI a1), some (vI a2), some (vI x6), some (vI (-1 : Int32)), some (vI (0 : Int32)), some (vI x7), none, none]) (iRow iCX12_surest_1 4 rfl) (by decide) rfl) ?_
      refine s_step (g_aload_n (iRow iCX12_surest_1 5 rfl) rfl rfl) ?_
      refine s_step (g_getR (iRow iCX12_surest_1 6 rfl) f12_47 ko_13 (r_13_21 _ _)) ?_
      refine s_step (g_iload_n (iRow iCX12_surest_1 7 rfl) rfl rfl) ?_
      refine s_step (g_iload_n (iRow iCX12_surest_1 8 rfl) rfl rfl) ?_
      refine s_gi (fun h => g_iast (iRow iCX12_surest_1 9 rfl) kn_75 ka_75 h) ?_
      refine s_nmM (fun M8 => ?_)
      refine s_step (g_aload_n (iRow iCX12_surest_1 10 rfl) rfl rfl) ?_
      refine s_step (g_getR (iRow iCX12_surest_1 11 rfl) f12_56 ko_13 (r_13_24 _ _)) ?_
      refine s_step (g_iload_n (iRow iCX12_surest_1 12 rfl) rfl rfl) ?_
      refine s_step (g_iconst (iRow iCX12_surest_1 13 rfl) kc_0) ?_
      refine s_gi (fun h => g_iast (iRow iCX12_surest_1 14 rfl) kn_78 ka_78 h) ?_
      refine s_nmM (fun M9 => ?_)
      refine s_step (g_aload_n (iRow iCX12_surest_1 15 rfl) rfl rfl) ?_
      refine s_step (g_getR (iRow iCX12_surest_1 16 rfl) f12_123 ko_13 (r_13_49 _ _)) ?_
      refine s_step (g_iconst (iRow iCX12_surest_1 17 rfl) kc_3) ?_
      refine s_step (g_dup2 (iRow iCX12_surest_1 18 rfl) rfl rfl) ?_
      refine s_gi (fun h => g_iald (iRow iCX12_surest_1 19 rfl) kn_100 ka_100 h) ?_
      refine s_step (g_iconst (iRow iCX12_surest_1 20 rfl) kc_1) ?_
      refine s_step (g_iload_n (iRow iCX12_surest_1 21 rfl) rfl rfl) ?_
      refine s_step (g_ishl (iRow iCX12_surest_1 22 rfl)) ?_
      refine s_step (g_ior (iRow iCX12_surest_1 23 rfl)) ?_
      refine s_gi (fun h => g_iast (iRow iCX12_surest_2 0 rfl) kn_100 ka_100 h) ?_
      refine s_nmM (fun M10 => ?_)
      refine s_step (g_iconst (iRow iCX12_surest_2 1 rfl) kc_1) ?_
      refine s_step (g_istore (ls' := [some (vR 13 0), some (vI a1), some (vI a2), some (vI x6), some (vI (-1 : Int32)), some (vI (0 : Int32)), some (vI x7), some (vI (1 : Int32)), none]) (iRow iCX12_surest_2 2 rfl) (by decide) rfl) ?_
      refine s_step (g_keep [true, false, true, true, true, true, true, true, false] rfl) ?_
      refine s_lp (fun z => [some (vR 13 0), none, some (vI a2), some (vI x6), some (vI (z.1)), some (vI (z.2.1)), some (vI x7), some (vI (z.2.2.1)), none]) (fun z => z.2.2.2) (fun z => LM G (d + 8) YX12_surest Z 167 [some (vR 13 0), none, some (vI a2), none, some (vI (z.1)), some (vI (z.2.1)), some (vI x7), none, none] [] z.2.2) rfl rfl ?_ ?_
      · rintro ⟨x11, x12, x13, M14⟩
        show SW G (d + 8) YX12_surest Z 76 [some (vR 13 0), none, some (vI a2), some (vI x6), some (vI x11), some (vI x12), some (vI x7), some (vI x13), none] [] M14 (b_X12_surest_1c F x6 x11 x12 x13 M14) _
        unfold b_X12_surest_1c
        refine s_step (g_iload (iRow iCX12_surest_2 3 rfl) rfl) ?_
        refine s_step (g_aload_n (iRow iCX12_surest_2 4 rfl) rfl rfl) ?_
        refine s_cl (sf := fun x => vI x :: [vI x13]) (fun _ _ h => h_V (As := []) (iRow iCX12_surest_2 5 rfl) l12_464 iX12_allOaths ko_13 rfl rfl rfl rfl (t_X12_allOaths (d + 7) h) rfl (by omega) (by decide) (Nat.le_of_ble_eq_true rfl)) (fun x16 M15 => ?_)
        refine s_if (g_icmp_gt (tgt := 167) (iRow iCX12_surest_2 6 rfl) (by decide)) (fun _ => ?_) (fun _ => ?_)
        · refine s_step (g_keep [true, false, true, false, true, true, true, false, false] rfl) ?_
          exact s_end (fun h => h)
        · refine s_step (g_iload (iRow iCX12_surest_2 7 rfl) rfl) ?_
          refine s_cl (sf := fun x => vI x :: []) (fun _ _ h => h_S (As := [_]) (iRow iCX12_surest_2 8 rfl) l12_470 iX12_bits rfl rfl (t_X12_bits (d + 7) h) rfl (by omega) (by decide) (Nat.le_of_ble_eq_true rfl)) (fun x18 M17 => ?_)
          refine s_step (g_iconst (iRow iCX12_surest_2 9 rfl) kc_2) ?_
          refine s_bd (fun z => LM G (d + 8) YX12_surest Z 161 [some (vR 13 0), none, some (vI a2), some (vI x6), some (vI (z.1)), some (vI (z.2.1)), some (vI x7), some (vI x13), none] [] z.2.2) ?_ ?_
          · refine s_if (g_icmp_le (tgt := 97) (iRow iCX12_surest_2 10 rfl) (by decide)) (fun _ => ?_) (fun _ => ?_)
            · refine s_step (g_aload_n (iRow iCX12_surest_2 12 rfl) rfl rfl) ?_
              refine s_step (g_getR (iRow iCX12_surest_2 13 rfl) f12_53 ko_13 (r_13_23 _ _)) ?_
              refine s_step (g_iload_n (iRow iCX12_surest_2 14 rfl) rfl rfl) ?_
              refine s_step (g_iload (iRow iCX12_surest_2 15 rfl) rfl) ?_
              refine s_gi (fun h => g_iast (iRow iCX12_surest_2 16 rfl) kn_77 ka_77 h) ?_
              refine s_nmM (fun M19 => ?_)
              refine s_step (g_aload_n (iRow iCX12_surest_2 17 rfl) rfl rfl) ?_
              refine s_step (g_aload_n (iRow iCX12_surest_2 18 rfl) rfl rfl) ?_
              refine s_step (g_getR (iRow iCX12_surest_2 19 rfl) f12_123 ko_13 (r_13_49 _ _)) ?_
              refine s_step (g_iconst (iRow iCX12_surest_2 20 rfl) kc_1) ?_
              refine s_gi (fun h => g_iald (iRow iCX12_surest_2 21 rfl) kn_100 ka_100 h) ?_
              refine s_cv (stA := []) (fun _ h => h_V (As := [_]) (iRow iCX12_surest_2 22 rfl) l12_410 iX12_laysStrengths ko_13 rfl rfl rfl rfl (t_X12_laysStrengths (d + 3) h) rfl (by omega) (by decide) (Nat.le_of_ble_eq_true rfl)) (fun M20 => ?_)
              refine s_step (g_aload_n (iRow iCX12_surest_2 23 rfl) rfl rfl) ?_
              refine s_step (g_aload_n (iRow iCX12_surest_3 0 rfl) rfl rfl) ?_
              refine s_step (g_getR (iRow iCX12_surest_3 1 rfl) f12_123 ko_13 (r_13_49 _ _)) ?_
              refine s_step (g_iconst (iRow iCX12_surest_3 2 rfl) kc_3) ?_
              refine s_gi (fun h => g_iald (iRow iCX12_surest_3 3 rfl) kn_100 ka_100 h) ?_
              refine s_cb (sf := fun b => vI (bI b) :: []) (fun _ _ h => h_V (As := [_]) (iRow iCX12_surest_3 4 rfl) l12_413 iX12_stand ko_13 rfl rfl rfl rfl (t_X12_stand (d + 6) h) rfl (by omega) (by decide) (Nat.le_of_ble_eq_true rfl)) (fun b22 M21 => ?_)
              refine s_ifneb (g_if_ne (tgt := 131) (iRow iCX12_surest_3 5 rfl) (by decide)) (fun _ => ?_) (fun _ => ?_)
              · refine s_step (g_aload_n (iRow iCX12_surest_3 7 rfl) rfl rfl) ?_
                refine s_step (g_iload_n (iRow iCX12_surest_3 8 rfl) rfl rfl) ?_
                refine s_cl (sf := fun x => vI x :: []) (fun _ _ h => h_V (As := [_]) (iRow iCX12_surest_3 9 rfl) l12_473 iX12_sureOf ko_13 rfl rfl rfl rfl (t_X12_sureOf (d + 0) h) rfl (by omega) (by decide) (Nat.le_of_ble_eq_true rfl)) (fun x24 M23 => ?_)
                refine s_step (g_istore (ls' := [some (vR 13 0), none, some (vI a2), some (vI x6), some (vI x11), some (vI x12), some (vI x7), some (vI x13), some (vI x24)]) (iRow iCX12_surest_3 10 rfl) (by decide) rfl) ?_
                refine s_step (g_iload (iRow iCX12_surest_3 11 rfl) rfl) ?_
                refine s_nj 153 (fun z => [some (vR 13 0), none, some (vI a2), some (vI x6), none, none, some (vI x7), some (vI x13), some (vI x24)]) (fun z => []) (fun z => M23) ?_ (fun j153 hj153 => ?_)
                · intro _
                  show SW G (d + 8) YX12_surest Z 153 [some (vR 13 0), none, some (vI a2), some (vI x6), none, none, some (vI x7), some (vI x13), some (vI x24)] [] M23 _ _
                  try dsimp only
                  refine s_step (g_iload (iRow iCX12_surest_3 17 rfl) rfl) ?_
                  refine s_step (g_istore (ls' := [some (vR 13 0), none, some (vI a2), some (vI x6), some (vI x13), none, some (vI x7), some (vI x13), some (vI x24)]) (iRow iCX12_surest_3 18 rfl) (by decide) rfl) ?_
                  refine s_step (g_iload (iRow iCX12_surest_3 19 rfl) rfl) ?_
                  refine s_step (g_istore (ls' := [some (vR 13 0), none, some (vI a2), some (vI x6), some (vI x13), some (vI x24), some (vI x7), some (vI x13), some (vI x24)]) (iRow iCX12_surest_3 20 rfl) (by decide) rfl) ?_
                  refine s_step (g_keep [true, false, true, true, true, true, true, true, false] rfl) ?_
                  exact s_end (fun h => h)
                · refine s_if (g_if_lt (tgt := 153) (iRow iCX12_surest_3 12 rfl) (by decide)) (fun _ => ?_) (fun _ => ?_)
                  · refine s_step (g_keep [true, false, true, true, false, false, true, true, true] rfl) ?_
                    exact hj153 _
                  · refine s_step (g_iload (iRow iCX12_surest_3 13 rfl) rfl) ?_
                    refine s_step (g_iload (iRow iCX12_surest_3 14 rfl) rfl) ?_
                    refine s_if (g_icmp_gt (tgt := 153) (iRow iCX12_surest_3 15 rfl) (by decide)) (fun _ => ?_) (fun _ => ?_)
                    · refine s_step (g_keep [true, false, true, true, false, false, true, true, true] rfl) ?_
                      exact hj153 _
                    · refine s_step (g_goto (tgt := 161) (iRow iCX12_surest_3 16 rfl) (by decide)) ?_
                      refine s_step (g_keep [true, false, true, true, true, true, true, true, false] rfl) ?_
                      exact s_end (fun h => h)
              · refine s_step (g_goto (tgt := 161) (iRow iCX12_surest_3 6 rfl) (by decide)) ?_
                exact s_end (fun h => h)
            · refine s_step (g_goto (tgt := 161) (iRow iCX12_surest_2 11 rfl) (by decide)) ?_
              exact s_end (fun h => h)
          · rintro ⟨x25, x26, M27⟩
            show SW G (d + 8) YX12_surest Z 161 [some (vR 13 0), none, some (vI a2), some (vI x6), some (vI x25), some (vI x26), some (vI x7), some (vI x13), none] [] M27 _ _
            try dsimp only
            refine s_step (g_iincc (c := 1) (ls' := [some (vR 13 0), none, some (vI a2), some (vI x6), some (vI x25), some (vI x26), some (vI x7), some (vI (x13 + (1 : Int32))), none]) (iRow iCX12_surest_3 21 rfl) rfl kc_1 (by decide) rfl) ?_
            refine s_step (g_goto (tgt := 76) (iRow iCX12_surest_3 22 rfl) (by decide)) ?_
            exact s_end (fun h => h)
      · rintro ⟨x28, x29, M30⟩
        show SW G (d + 8) YX12_surest Z 167 [some (vR 13 0), none, some (vI a2), none, some (vI x28), some (vI x29), some (vI x7), none, none] [] M30 _ _
        try dsimp only
        refine s_step (g_aload_n (iRow iCX12_surest_3 23 rfl) rfl rfl) ?_
        refine s_step (g_getR (iRow iCX12_surest_4 0 rfl) f12_123 ko_13 (r_13_49 _ _)) ?_
        refine s_step (g_iconst (iRow iCX12_surest_4 1 rfl) kc_3) ?_
        refine s_step (g_iload (iRow iCX12_surest_4 2 rfl) rfl) ?_
        refine s_gi (fun h => g_iast (iRow iCX12_surest_4 3 rfl) kn_100 ka_100 h) ?_
        refine s_nmM (fun M31 => ?_)
        refine s_step (g_iload (iRow iCX12_surest_4 4 rfl) rfl) ?_
        refine s_nj 185 (fun z => [none, none, none, none, some (vI x28), none, none, none, none]) (fun z => []) (fun z => M31) ?_ (fun j185 hj185 => ?_)
        · intro _
          show SW G (d + 8) YX12_surest Z 185 [none, none, none, none, some (vI x28), none, none, none, none] [] M31 _ _
          try dsimp only
          refine s_step (g_iload (iRow iCX12_surest_4 9 rfl) rfl) ?_
          refine s_step (g_goto (tgt := 192) (iRow iCX12_surest_4 10 rfl) (by decide)) ?_
          exact s_reti (iRow iCX12_surest_4 12 rfl) rfl
        · refine s_if (g_if_lt (tgt := 185) (iRow iCX12_surest_4 5 rfl) (by decide)) (fun _ => ?_) (fun _ => ?_)
          · refine s_step (g_keep [false, false, false, false, true, false, false, false, false] rfl) ?_
            exact hj185 _
          · refine s_step (g_iload_n (iRow iCX12_surest_4 6 rfl) rfl rfl) ?_
            refine s_step (g_iconst (iRow iCX12_surest_4 7 rfl) kc_1) ?_
            refine s_ifn (g_icmp_ne (tgt := 190) (iRow iCX12_surest_4 8 rfl) (by decide)) (fun _ => ?_) (fun _ => ?_)
            · refine s_step (g_keep [false, false, false, false, true, false, false, false, false] rfl) ?_
              exact hj185 _
            · refine s_step (g_iload (iRow iCX12_surest_4 11 rfl) rfl) ?_
              exact s_reti (iRow iCX12_surest_4 12 rfl) rfl
    · refine s_step (g_iconst (iRow iCX12_surest_0 13 rfl) kc_m1) ?_
      exact s_reti (iRow iCX12_surest_0 14 rfl) rfl
  · refine s_step (g_iconst (iRow iCX12_surest_0 13 rfl) kc_m1) ?_
    exact s_reti (iRow iCX12_surest_0 14 rfl) rfl
abbrev YX12_isClashing : mY := (RX12, "isClashing", cX12_isClashing, 3, (some .boolean), none)
set_option maxHeartbeats 400000 in
set_option maxRecDepth 20000 in
theorem t_X12_isClashing {G : mg} {F : Nat} {a1 : Int32} {M : mm} {x : Bool} {M' : mm} (d : Nat) (h : m_X12_isClashing F a1 M = some (x, M')) : CM G yX12_isClashing cX12_isClashing 3 (some .boolean) (d + 0) [vR 13 0, vI a1] M (some (vI (bI x))) M' := by
  refine ct_z (ls := [some (vR 13 0), some (vI a1), none]) rfl rfl (Nat.le_of_ble_eq_true rfl) (fun Z => ?_) h
  show SW G (d + 0) YX12_isClashing Z 0 [some (vR 13 0), some (vI a1), none] [] M _ _
  unfold m_X12_isClashing
  refine s_step (g_iconst (iRow iCX12_isClashing_0 0 rfl) kc_0) ?_
  refine s_step (g_istore_n (ls' := [some (vR 13 0), some (vI a1), some (vI (0 : Int32))]) (iRow iCX12_isClashing_0 1 rfl) rfl (by decide) rfl) ?_
  refine s_lp (fun z => [some (vR 13 0), some (vI a1), some (vI z)]) (fun _ => M) (Sum.elim (fun z => LM G (d + 0) YX12_isClashing Z 33 [none, none, none] [] M) (fun z => LM G (d + 0) YX12_isClashing Z 41 [none, none, none] [] M)) rfl rfl ?_ ?_
  · rintro x1
    show SW G (d + 0) YX12_isClashing Z 2 [some (vR 13 0), some (vI a1), some (vI x1)] [] M (b_X12_isClashing_1c F a1 M x1) _
    unfold b_X12_isClashing_1c
    refine s_step (g_iload_n (iRow iCX12_isClashing_0 2 rfl) rfl rfl) ?_
    refine s_step (g_aload_n (iRow iCX12_isClashing_0 3 rfl) rfl rfl) ?_
    refine s_step (g_getR (iRow iCX12_isClashing_0 4 rfl) f12_13 ko_13 (r_13_10 _ _)) ?_
    refine s_step (g_iconst (iRow iCX12_isClashing_0 5 rfl) kc_1) ?_
    refine s_gi (fun h => g_iald (iRow iCX12_isClashing_0 6 rfl) kn_64 ka_64 h) ?_
    refine s_if (g_icmp_ge (tgt := 41) (iRow iCX12_isClashing_0 7 rfl) (by decide)) (fun _ => ?_) (fun _ => ?_)
    · refine s_step (g_keep [false, false, false] rfl) ?_
      exact s_end (fun h => h)
    · refine s_step (g_iload_n (iRow iCX12_isClashing_0 8 rfl) rfl rfl) ?_
      refine s_step (g_iload_n (iRow iCX12_isClashing_0 9 rfl) rfl rfl) ?_
      refine s_step (g_ishr (iRow iCX12_isClashing_0 10 rfl)) ?_
      refine s_step (g_iconst (iRow iCX12_isClashing_0 11 rfl) kc_1) ?_
      refine s_step (g_iand (iRow iCX12_isClashing_0 12 rfl)) ?_
      refine s_nj 35 (fun z => [some (vR 13 0), some (vI a1), some (vI x1)]) (fun z => []) (fun z => M) ?_ (fun j35 hj35 => ?_)
      · intro _
        show SW G (d + 0) YX12_isClashing Z 35 [some (vR 13 0), some (vI a1), some (vI x1)] [] M _ _
        try dsimp only
        refine s_step (g_iincc (c := 1) (ls' := [some (vR 13 0), some (vI a1), some (vI (x1 + (1 : Int32)))]) (iRow iCX12_isClashing_1 1 rfl) rfl kc_1 (by decide) rfl) ?_
        refine s_step (g_goto (tgt := 2) (iRow iCX12_isClashing_1 2 rfl) (by decide)) ?_
        exact s_end (fun h => h)
      · refine s_ifn (g_if_ne (tgt := 35) (iRow iCX12_isClashing_0 13 rfl) (by decide)) (fun _ => ?_) (fun _ => ?_)
        · refine s_step (g_aload_n (iRow iCX12_isClashing_0 14 rfl) rfl rfl) ?_
          refine s_step (g_getR (iRow iCX12_isClashing_0 15 rfl) f12_44 ko_13 (r_13_20 _ _)) ?_
          refine s_step (g_iload_n (iRow iCX12_isClashing_0 16 rfl) rfl rfl) ?_
          refine s_gi (fun h => g_iald (iRow iCX12_isClashing_0 17 rfl) kn_74 ka_74 h) ?_
          refine s_step (g_iload_n (iRow iCX12_isClashing_0 18 rfl) rfl rfl) ?_
          refine s_step (g_iconst (iRow iCX12_isClashing_0 19 rfl) kc_m1) ?_
          refine s_step (g_ixor (iRow iCX12_isClashing_0 20 rfl)) ?_
          refine s_step (g_iand (iRow iCX12_isClashing_0 21 rfl)) ?_
          refine s_if (g_if_eq (tgt := 35) (iRow iCX12_isClashing_0 22 rfl) (by decide)) (fun _ => ?_) (fun _ => ?_)
          · exact hj35 _
          · refine s_step (g_keep [false, false, false] rfl) ?_
            exact s_end (fun h => h)
        · exact hj35 _
  · intro z
    rcases z with z | z
    · obtain ⟨⟩ := z
      show SW G (d + 0) YX12_isClashing Z 33 [none, none, none] [] M _ _
      try dsimp only [Sum.elim]
      refine s_step (g_iconst (iRow iCX12_isClashing_0 23 rfl) kc_1) ?_
      exact s_retz (b := true) (iRow iCX12_isClashing_1 0 rfl) rfl rfl
    · obtain ⟨⟩ := z
      show SW G (d + 0) YX12_isClashing Z 41 [none, none, none] [] M _ _
      try dsimp only [Sum.elim]
      refine s_step (g_iconst (iRow iCX12_isClashing_1 3 rfl) kc_0) ?_
      exact s_retz (b := false) (iRow iCX12_isClashing_1 4 rfl) rfl rfl
abbrev YX12_keep : mY := (RX12, "keep", cX12_keep, 4, (some .int), none)
set_option maxHeartbeats 400000 in
set_option maxRecDepth 20000 in
theorem t_X12_keep {G : mg} {F : Nat} {M : mm} {x : Int32} {M' : mm} (d : Nat) (h : m_X12_keep F M = some (x, M')) : CM G yX12_keep cX12_keep 4 (some .int) (d + 7) [vR 13 0] M (some (vI x)) M' := by
  refine ct_i (ls := [some (vR 13 0), none, none, none]) rfl rfl (Nat.le_of_ble_eq_true rfl) (fun Z => ?_) h
  show SW G (d + 7) YX12_keep Z 0 [some (vR 13 0), none, none, none] [] M _ _
  unfold m_X12_keep
  refine s_step (g_aload_n (iRow iCX12_keep_0 0 rfl) rfl rfl) ?_
  refine s_step (g_iconst (iRow iCX12_keep_0 1 rfl) kc_0) ?_
  refine s_step (g_putI (iRow iCX12_keep_0 2 rfl) f12_157 (Or.inl rfl) ko_13) ?_
  refine s_nmM (fun M1 => ?_)
  refine s_step (g_aload_n (iRow iCX12_keep_0 3 rfl) rfl rfl) ?_
  refine s_cl (sf := fun x => vI x :: []) (fun _ _ h => h_V (As := []) (iRow iCX12_keep_0 4 rfl) l12_461 iX12_loose ko_13 rfl rfl rfl rfl (t_X12_loose (d + 5) h) rfl (by omega) (by decide) (Nat.le_of_ble_eq_true rfl)) (fun x3 M2 => ?_)
  refine s_step (g_istore_n (ls' := [some (vR 13 0), some (vI x3), none, none]) (iRow iCX12_keep_0 5 rfl) rfl (by decide) rfl) ?_
  refine s_step (g_iconst (iRow iCX12_keep_0 6 rfl) kc_m1) ?_
  refine s_step (g_istore_n (ls' := [some (vR 13 0), some (vI x3), some (vI (-1 : Int32)), none]) (iRow iCX12_keep_0 7 rfl) rfl (by decide) rfl) ?_
  refine s_step (g_iconst (iRow iCX12_keep_0 8 rfl) kc_0) ?_
  refine s_step (g_istore_n (ls' := [some (vR 13 0), some (vI x3), some (vI (-1 : Int32)), some (vI (0 : Int32))]) (iRow iCX12_keep_0 9 rfl) rfl (by decide) rfl) ?_
  refine s_lp (fun z => [some (vR 13 0), some (vI x3), some (vI (z.1)), some (vI (z.2.1))]) (fun z => z.2.2) (fun z => LM G (d + 7) YX12_keep Z 85 [none, none, some (vI (z.1)), none] [] z.2) rfl rfl ?_ ?_
  · rintro ⟨x4, x5, M6⟩
    show SW G (d + 7) YX12_keep Z 14 [some (vR 13 0), some (vI x3), some (vI x4), some (vI x5)] [] M6 (b_X12_keep_1c F x3 x4 x5 M6) _
    unfold b_X12_keep_1c
    refine s_step (g_iload_n (iRow iCX12_keep_0 10 rfl) rfl rfl) ?_
    refine s_step (g_aload_n (iRow iCX12_keep_0 11 rfl) rfl rfl) ?_
    refine s_cl (sf := fun x => vI x :: [vI x5]) (fun _ _ h => h_V (As := []) (iRow iCX12_keep_0 12 rfl) l12_464 iX12_allOaths ko_13 rfl rfl rfl rfl (t_X12_allOaths (d + 6) h) rfl (by omega) (by decide) (Nat.le_of_ble_eq_true rfl)) (fun x8 M7 => ?_)
    refine s_if (g_icmp_gt (tgt := 85) (iRow iCX12_keep_0 13 rfl) (by decide)) (fun _ => ?_) (fun _ => ?_)
    · refine s_step (g_keep [false, false, true, false] rfl) ?_
      exact s_end (fun h => h)
    · refine s_step (g_iload_n (iRow iCX12_keep_0 14 rfl) rfl rfl) ?_
      refine s_step (g_iload_n (iRow iCX12_keep_0 15 rfl) rfl rfl) ?_
      refine s_step (g_iconst (iRow iCX12_keep_0 16 rfl) kc_m1) ?_
      refine s_step (g_ixor (iRow iCX12_keep_0 17 rfl)) ?_
      refine s_step (g_iand (iRow iCX12_keep_0 18 rfl)) ?_
      refine s_bd (fun z => LM G (d + 7) YX12_keep Z 79 [some (vR 13 0), some (vI x3), some (vI (z.1)), some (vI x5)] [] z.2) ?_ ?_
      · refine s_ifn (g_if_ne (tgt := 79) (iRow iCX12_keep_0 19 rfl) (by decide)) (fun _ => ?_) (fun _ => ?_)
        · refine s_step (g_iload_n (iRow iCX12_keep_0 20 rfl) rfl rfl) ?_
          refine s_nj 45 (fun z => [some (vR 13 0), some (vI x3), some (vI x4), some (vI x5)]) (fun z => []) (fun z => z) ?_ (fun j45 hj45 => ?_)
          · rintro M13
            show SW G (d + 7) YX12_keep Z 45 [some (vR 13 0), some (vI x3), some (vI x4), some (vI x5)] [] M13 _ _
            try dsimp only
            refine s_step (g_aload_n (iRow iCX12_keep_1 3 rfl) rfl rfl) ?_
            refine s_step (g_aload_n (iRow iCX12_keep_1 4 rfl) rfl rfl) ?_
            refine s_step (g_getR (iRow iCX12_keep_1 5 rfl) f12_123 ko_13 (r_13_49 _ _)) ?_
            refine s_step (g_iconst (iRow iCX12_keep_1 6 rfl) kc_1) ?_
            refine s_gi (fun h => g_iald (iRow iCX12_keep_1 7 rfl) kn_100 ka_100 h) ?_
            refine s_step (g_iload_n (iRow iCX12_keep_1 8 rfl) rfl rfl) ?_
            refine s_step (g_ior (iRow iCX12_keep_1 9 rfl)) ?_
            refine s_cb (sf := fun b => vI (bI b) :: []) (fun _ _ h => h_V (As := [_]) (iRow iCX12_keep_1 10 rfl) l12_476 iX12_isClashing ko_13 rfl rfl rfl rfl (t_X12_isClashing (d + 6) h) rfl (by omega) (by decide) (Nat.le_of_ble_eq_true rfl)) (fun b15 M14 => ?_)
            refine s_ifeqb (g_if_eq (tgt := 63) (iRow iCX12_keep_1 11 rfl) (by decide)) (fun _ => ?_) (fun _ => ?_)
            · refine s_step (g_goto (tgt := 79) (iRow iCX12_keep_1 12 rfl) (by decide)) ?_
              exact s_end (fun h => h)
            · refine s_step (g_aload_n (iRow iCX12_keep_1 13 rfl) rfl rfl) ?_
              refine s_step (g_iload_n (iRow iCX12_keep_1 14 rfl) rfl rfl) ?_
              refine s_cl (sf := fun x => vI x :: []) (fun _ _ h => h_V (As := [_]) (iRow iCX12_keep_1 15 rfl) l12_467 iX12_upIf ko_13 rfl rfl rfl rfl (t_X12_upIf (d + 0) h) rfl (by omega) (by decide) (Nat.le_of_ble_eq_true rfl)) (fun x17 M16 => ?_)
              refine s_step (g_aload_n (iRow iCX12_keep_1 16 rfl) rfl rfl) ?_
              refine s_step (g_getR (iRow iCX12_keep_1 17 rfl) f12_123 ko_13 (r_13_49 _ _)) ?_
              refine s_step (g_iconst (iRow iCX12_keep_1 18 rfl) kc_3) ?_
              refine s_gi (fun h => g_iald (iRow iCX12_keep_1 19 rfl) kn_100 ka_100 h) ?_
              refine s_ifn (g_icmp_ne (tgt := 79) (iRow iCX12_keep_1 20 rfl) (by decide)) (fun _ => ?_) (fun _ => ?_)
              · refine s_step (g_iload_n (iRow iCX12_keep_1 21 rfl) rfl rfl) ?_
                refine s_step (g_istore_n (ls' := [some (vR 13 0), some (vI x3), some (vI x5), some (vI x5)]) (iRow iCX12_keep_1 22 rfl) rfl (by decide) rfl) ?_
                exact s_end (fun h => h)
              · exact s_end (fun h => h)
          · refine s_if (g_if_lt (tgt := 45) (iRow iCX12_keep_0 21 rfl) (by decide)) (fun _ => ?_) (fun _ => ?_)
            · exact hj45 _
            · refine s_step (g_iload_n (iRow iCX12_keep_0 22 rfl) rfl rfl) ?_
              refine s_cl (sf := fun x => vI x :: []) (fun _ _ h => h_S (As := [_]) (iRow iCX12_keep_0 23 rfl) l12_470 iX12_bits rfl rfl (t_X12_bits (d + 6) h) rfl (by omega) (by decide) (Nat.le_of_ble_eq_true rfl)) (fun x10 M9 => ?_)
              refine s_step (g_iload_n (iRow iCX12_keep_1 0 rfl) rfl rfl) ?_
              refine s_cl (sf := fun x => vI x :: [vI x10]) (fun _ _ h => h_S (As := [_]) (iRow iCX12_keep_1 1 rfl) l12_470 iX12_bits rfl rfl (t_X12_bits (d + 6) h) rfl (by omega) (by decide) (Nat.le_of_ble_eq_true rfl)) (fun x12 M11 => ?_)
              refine s_if (g_icmp_ge (tgt := 79) (iRow iCX12_keep_1 2 rfl) (by decide)) (fun _ => ?_) (fun _ => ?_)
              · exact s_end (fun h => h)
              · exact hj45 _
        · exact s_end (fun h => h)
      · rintro ⟨x18, M19⟩
        show SW G (d + 7) YX12_keep Z 79 [some (vR 13 0), some (vI x3), some (vI x18), some (vI x5)] [] M19 _ _
        try dsimp only
        refine s_step (g_iincc (c := 1) (ls' := [some (vR 13 0), some (vI x3), some (vI x18), some (vI (x5 + (1 : Int32)))]) (iRow iCX12_keep_1 23 rfl) rfl kc_1 (by decide) rfl) ?_
        refine s_step (g_goto (tgt := 14) (iRow iCX12_keep_2 0 rfl) (by decide)) ?_
        exact s_end (fun h => h)
  · rintro ⟨x20, M21⟩
    show SW G (d + 7) YX12_keep Z 85 [none, none, some (vI x20), none] [] M21 _ _
    try dsimp only
    refine s_step (g_iload_n (iRow iCX12_keep_2 1 rfl) rfl rfl) ?_
    exact s_reti (iRow iCX12_keep_2 2 rfl) rfl
abbrev YX12_raisesAll : mY := (RX12, "raisesAll", cX12_raisesAll, 2, none, none)
set_option maxHeartbeats 400000 in
set_option maxRecDepth 20000 in
theorem t_X12_raisesAll {G : mg} {F : Nat} {M : mm} {M' : mm} (d : Nat) (h : m_X12_raisesAll F M = some M') : CM G yX12_raisesAll cX12_raisesAll 2 none (d + 6) [vR 13 0] M none M' := by
  refine ct_v (ls := [some (vR 13 0), none]) rfl rfl (Nat.le_of_ble_eq_true rfl) (fun Z => ?_) h
  show SW G (d + 6) YX12_raisesAll Z 0 [some (vR 13 0), none] [] M _ _
  unfold m_X12_raisesAll
  refine s_step (g_iconst (iRow iCX12_raisesAll_0 0 rfl) kc_0) ?_
  refine s_step (g_istore_n (ls' := [some (vR 13 0), some (vI (0 : Int32))]) (iRow iCX12_raisesAll_0 1 rfl) rfl (by decide) rfl) ?_
  refine s_lp (fun z => [some (vR 13 0), some (vI (z.1))]) (fun z => z.2) (fun z => LM G (d + 6) YX12_raisesAll Z 38 [none, none] [] z) rfl rfl ?_ ?_
  · rintro ⟨x1, M2⟩
    show SW G (d + 6) YX12_raisesAll Z 2 [some (vR 13 0), some (vI x1)] [] M2 (b_X12_raisesAll_1c F x1 M2) _
    unfold b_X12_raisesAll_1c
    refine s_step (g_iload_n (iRow iCX12_raisesAll_0 2 rfl) rfl rfl) ?_
    refine s_step (g_aload_n (iRow iCX12_raisesAll_0 3 rfl) rfl rfl) ?_
    refine s_step (g_getR (iRow iCX12_raisesAll_0 4 rfl) f12_13 ko_13 (r_13_10 _ _)) ?_
    refine s_step (g_iconst (iRow iCX12_raisesAll_0 5 rfl) kc_2) ?_
    refine s_gi (fun h => g_iald (iRow iCX12_raisesAll_0 6 rfl) kn_64 ka_64 h) ?_
    refine s_if (g_icmp_ge (tgt := 38) (iRow iCX12_raisesAll_0 7 rfl) (by decide)) (fun _ => ?_) (fun _ => ?_)
    · refine s_step (g_keep [false, false] rfl) ?_
      exact s_end (fun h => h)
    · refine s_step (g_aload_n (iRow iCX12_raisesAll_0 8 rfl) rfl rfl) ?_
      refine s_step (g_iload_n (iRow iCX12_raisesAll_0 9 rfl) rfl rfl) ?_
      refine s_cb (sf := fun b => vI (bI b) :: []) (fun _ _ h => h_V (As := [_]) (iRow iCX12_raisesAll_0 10 rfl) l12_441 iX12_canRaise ko_13 rfl rfl rfl rfl (t_X12_canRaise (d + 0) h) rfl (by omega) (by decide) (Nat.le_of_ble_eq_true rfl)) (fun b4 M3 => ?_)
      refine s_bd (fun z => LM G (d + 6) YX12_raisesAll Z 32 [some (vR 13 0), some (vI x1)] [] z) ?_ ?_
      · refine s_ifeqb (g_if_eq (tgt := 32) (iRow iCX12_raisesAll_0 11 rfl) (by decide)) (fun _ => ?_) (fun _ => ?_)
        · refine s_step (g_aload_n (iRow iCX12_raisesAll_0 12 rfl) rfl rfl) ?_
          refine s_step (g_getR (iRow iCX12_raisesAll_0 13 rfl) f12_123 ko_13 (r_13_49 _ _)) ?_
          refine s_step (g_iconst (iRow iCX12_raisesAll_0 14 rfl) kc_3) ?_
          refine s_step (g_dup2 (iRow iCX12_raisesAll_0 15 rfl) rfl rfl) ?_
          refine s_gi (fun h => g_iald (iRow iCX12_raisesAll_0 16 rfl) kn_100 ka_100 h) ?_
          refine s_step (g_iconst (iRow iCX12_raisesAll_0 17 rfl) kc_1) ?_
          refine s_step (g_iload_n (iRow iCX12_raisesAll_0 18 rfl) rfl rfl) ?_
          refine s_step (g_ishl (iRow iCX12_raisesAll_0 19 rfl)) ?_
          refine s_step (g_ior (iRow iCX12_raisesAll_0 20 rfl)) ?_
          refine s_gi (fun h => g_iast (iRow iCX12_raisesAll_0 21 rfl) kn_100 ka_100 h) ?_
          refine s_nmM (fun M5 => ?_)
          exact s_end (fun h => h)
        · exact s_end (fun h => h)
      · rintro M6
        show SW G (d + 6) YX12_raisesAll Z 32 [some (vR 13 0), some (vI x1)] [] M6 _ _
        try dsimp only
        refine s_step (g_iincc (c := 1) (ls' := [some (vR 13 0), some (vI (x1 + (1 : Int32)))]) (iRow iCX12_raisesAll_0 22 rfl) rfl kc_1 (by decide) rfl) ?_
        refine s_step (g_goto (tgt := 2) (iRow iCX12_raisesAll_0 23 rfl) (by decide)) ?_
        exact s_end (fun h => h)
  · rintro M7
    show SW G (d + 6) YX12_raisesAll Z 38 [none, none] [] M7 _ _
    try dsimp only
    exact s_retv (iRow iCX12_raisesAll_1 0 rfl) rfl
abbrev YX12_apologizes : mY := (RX12, "apologizes", cX12_apologizes, 8, none, none)
set_option maxHeartbeats 400000 in
set_option maxRecDepth 20000 in
theorem r_X12_apologizes {G : mg} {F : Nat} (n : Nat) : ∀ (d : Nat) {a1 : Int32} {a2 : Int32} {M M' : mm}, s_X12_apologizes_n F n a1 a2 M = some M' → CM G yX12_apologizes cX12_apologizes 8 none (d + n + 8) [vR 13 0, vI a1, vI a2] M none M' := by
  induction n with
  | zero => intro d a1 a2 M M' h; cases h
  | succ n ih =>
    intro d a1 a2 M M' h
    have hrc : ∀ {a1 : Int32} {a2 : Int32} {M M' : mm}, s_X12_apologizes_n F n a1 a2 M = some M' → CM G yX12_apologizes cX12_apologizes 8 none (d + n + 8) [vR 13 0, vI a1, vI a2] M none M' := fun h => ih d h
    refine ct_v (ls := [some (vR 13 0), some (vI a1), some (vI a2), none, none, none, none, none]) rfl rfl (Nat.le_of_ble_eq_true rfl) (fun Z => ?_) h
    show SW G (d + (n + 1) + 8) YX12_apologizes Z 0 [some (vR 13 0), some (vI a1), some (vI a2), none, none, none, none, none] [] M (s_X12_apologizes (s_X12_apologizes_n F n) F a1 a2 M) _
    revert hrc
    generalize s_X12_apologizes_n F n = rc
    intro hrc
    unfold s_X12_apologizes
    refine s_step (g_iload_n (iRow iCX12_apologizes_0 0 rfl) rfl rfl) ?_
    refine s_step (g_iload_n (iRow iCX12_apologizes_0 1 rfl) rfl rfl) ?_
    refine s_ifn (g_icmp_ne (tgt := 60) (iRow iCX12_apologizes_0 2 rfl) (by decide)) (fun _ => ?_) (fun _ => ?_)
    · refine s_step (g_aload_n (iRow iCX12_apologizes_0 3 rfl) rfl rfl) ?_
      refine s_step (g_aload_n (iRow iCX12_apologizes_0 4 rfl) rfl rfl) ?_
      refine s_step (g_getR (iRow iCX12_apologizes_0 5 rfl) f12_123 ko_13 (r_13_49 _ _)) ?_
      refine s_step (g_iconst (iRow iCX12_apologizes_0 6 rfl) kc_3) ?_
      refine s_gi (fun h => g_iald (iRow iCX12_apologizes_0 7 rfl) kn_100 ka_100 h) ?_
      refine s_cl (sf := fun x => vI x :: []) (fun _ _ h => h_V (As := [_]) (iRow iCX12_apologizes_0 8 rfl) l12_453 iX12_weighed ko_13 rfl rfl rfl rfl (t_X12_weighed (d + 7) h) rfl (by omega) (by decide) (Nat.le_of_ble_eq_true rfl)) (fun x22 M21 => ?_)
      refine s_step (g_istore_n (ls' := [some (vR 13 0), some (vI a1), some (vI a2), some (vI x22), none, none, none, none]) (iRow iCX12_apologizes_0 9 rfl) rfl (by decide) rfl) ?_
      refine s_step (g_iload_n (iRow iCX12_apologizes_0 10 rfl) rfl rfl) ?_
      refine s_step (g_aload_n (iRow iCX12_apologizes_0 11 rfl) rfl rfl) ?_
      refine s_step (g_getI (iRow iCX12_apologizes_0 12 rfl) f12_479 ko_13) ?_
      refine s_if (g_icmp_gt (tgt := 25) (iRow iCX12_apologizes_0 13 rfl) (by decide)) (fun _ => ?_) (fun _ => ?_)
      · refine s_step (g_aload_n (iRow iCX12_apologizes_0 15 rfl) rfl rfl) ?_
        refine s_step (g_iload_n (iRow iCX12_apologizes_0 16 rfl) rfl rfl) ?_
        refine s_step (g_putI (iRow iCX12_apologizes_0 17 rfl) f12_479 (Or.inl rfl) ko_13) ?_
        refine s_nmM (fun M23 => ?_)
        refine s_step (g_iconst (iRow iCX12_apologizes_0 18 rfl) kc_0) ?_
        refine s_step (g_istore (ls' := [some (vR 13 0), some (vI a1), some (vI a2), some (vI x22), some (vI (0 : Int32)), none, none, none]) (iRow iCX12_apologizes_0 19 rfl) (by decide) rfl) ?_
        refine s_step (g_keep [true, false, false, false, true, false, false, false] rfl) ?_
        refine s_lp (fun z => [some (vR 13 0), none, none, none, some (vI (z.1)), none, none, none]) (fun z => z.2) (fun z => LM G (d + (n + 1) + 8) YX12_apologizes Z 59 [none, none, none, none, none, none, none, none] [] z) rfl rfl ?_ ?_
        · rintro ⟨x24, M25⟩
          show SW G (d + (n + 1) + 8) YX12_apologizes Z 33 [some (vR 13 0), none, none, none, some (vI x24), none, none, none] [] M25 (b_X12_apologizes_2c F x24 M25) _
          unfold b_X12_apologizes_2c
          refine s_step (g_iload (iRow iCX12_apologizes_0 20 rfl) rfl) ?_
          refine s_step (g_iconst (iRow iCX12_apologizes_0 21 rfl) kc_3) ?_
          refine s_if (g_icmp_ge (tgt := 59) (iRow iCX12_apologizes_0 22 rfl) (by decide)) (fun _ => ?_) (fun _ => ?_)
          · refine s_step (g_keep [false, false, false, false, false, false, false, false] rfl) ?_
            exact s_end (fun h => h)
          · refine s_step (g_aload_n (iRow iCX12_apologizes_0 23 rfl) rfl rfl) ?_
            refine s_step (g_getR (iRow iCX12_apologizes_1 0 rfl) f12_147 ko_13 (r_13_59 _ _)) ?_
            refine s_step (g_iload (iRow iCX12_apologizes_1 1 rfl) rfl) ?_
            refine s_step (g_aload_n (iRow iCX12_apologizes_1 2 rfl) rfl rfl) ?_
            refine s_step (g_getR (iRow iCX12_apologizes_1 3 rfl) f12_144 ko_13 (r_13_58 _ _)) ?_
            refine s_step (g_iload (iRow iCX12_apologizes_1 4 rfl) rfl) ?_
            refine s_gi (fun h => g_iald (iRow iCX12_apologizes_1 5 rfl) kn_107 ka_107 h) ?_
            refine s_gi (fun h => g_iast (iRow iCX12_apologizes_1 6 rfl) kn_108 ka_108 h) ?_
            refine s_nmM (fun M26 => ?_)
            refine s_step (g_iincc (c := 1) (ls' := [some (vR 13 0), none, none, none, some (vI (x24 + (1 : Int32))), none, none, none]) (iRow iCX12_apologizes_1 7 rfl) rfl kc_1 (by decide) rfl) ?_
            refine s_step (g_goto (tgt := 33) (iRow iCX12_apologizes_1 8 rfl) (by decide)) ?_
            exact s_end (fun h => h)
        · rintro M27
          show SW G (d + (n + 1) + 8) YX12_apologizes Z 59 [none, none, none, none, none, none, none, none] [] M27 _ _
          try dsimp only
          exact s_retv (iRow iCX12_apologizes_1 9 rfl) rfl
      · exact s_retv (iRow iCX12_apologizes_0 14 rfl) rfl
    · refine s_step (g_aload_n (iRow iCX12_apologizes_1 10 rfl) rfl rfl) ?_
      refine s_step (g_getR (iRow iCX12_apologizes_1 11 rfl) f12_123 ko_13 (r_13_49 _ _)) ?_
      refine s_step (g_iconst (iRow iCX12_apologizes_1 12 rfl) kc_0) ?_
      refine s_gi (fun h => g_iald (iRow iCX12_apologizes_1 13 rfl) kn_100 ka_100 h) ?_
      refine s_nmI (fun x1 => ?_)
      refine s_step (g_istore_n (ls' := [some (vR 13 0), some (vI a1), some (vI a2), some (vI x1), none, none, none, none]) (iRow iCX12_apologizes_1 14 rfl) rfl (by decide) rfl) ?_
      refine s_step (g_aload_n (iRow iCX12_apologizes_1 15 rfl) rfl rfl) ?_
      refine s_step (g_getR (iRow iCX12_apologizes_1 16 rfl) f12_123 ko_13 (r_13_49 _ _)) ?_
      refine s_step (g_iconst (iRow iCX12_apologizes_1 17 rfl) kc_1) ?_
      refine s_gi (fun h => g_iald (iRow iCX12_apologizes_1 18 rfl) kn_100 ka_100 h) ?_
      refine s_nmI (fun x2 => ?_)
      refine s_step (g_istore (ls' := [some (vR 13 0), some (vI a1), some (vI a2), some (vI x1), some (vI x2), none, none, none]) (iRow iCX12_apologizes_1 19 rfl) (by decide) rfl) ?_
      refine s_step (g_aload_n (iRow iCX12_apologizes_1 20 rfl) rfl rfl) ?_
      refine s_step (g_getR (iRow iCX12_apologizes_1 21 rfl) f12_123 ko_13 (r_13_49 _ _)) ?_
      refine s_step (g_iconst (iRow iCX12_apologizes_1 22 rfl) kc_2) ?_
      refine s_gi (fun h => g_iald (iRow iCX12_apologizes_1 23 rfl) kn_100 ka_100 h) ?_
      refine s_nmI (fun x3 => ?_)
      refine s_step (g_istore (ls' := [some (vR 13 0), some (vI a1), some (vI a2), some (vI x1), some (vI x2), some (vI x3), none, none]) (iRow iCX12_apologizes_2 0 rfl) (by decide) rfl) ?_
      refine s_step (g_aload_n (iRow iCX12_apologizes_2 1 rfl) rfl rfl) ?_
      refine s_step (g_getR (iRow iCX12_apologizes_2 2 rfl) f12_123 ko_13 (r_13_49 _ _)) ?_
      refine s_step (g_iconst (iRow iCX12_apologizes_2 3 rfl) kc_3) ?_
      refine s_gi (fun h => g_iald (iRow iCX12_apologizes_2 4 rfl) kn_100 ka_100 h) ?_
      refine s_nmI (fun x4 => ?_)
      refine s_step (g_istore (ls' := [some (vR 13 0), some (vI a1), some (vI a2), some (vI x1), some (vI x2), some (vI x3), some (vI x4), none]) (iRow iCX12_apologizes_2 5 rfl) (by decide) rfl) ?_
      refine s_step (g_iconst (iRow iCX12_apologizes_2 6 rfl) kc_0) ?_
      refine s_step (g_istore (ls' := [some (vR 13 0), some (vI a1), some (vI a2), some (vI x1), some (vI x2), some (vI x3), some (vI x4), some (vI (0 : Int32))]) (iRow iCX12_apologizes_2 7 rfl) (by decide) rfl) ?_
      refine s_lp (fun z => [some (vR 13 0), some (vI a1), some (vI a2), some (vI x1), some (vI x2), some (vI x3), some (vI x4), some (vI (z.1))]) (fun z => z.2) (fun z => LM G (d + (n + 1) + 8) YX12_apologizes Z 191 [none, none, none, none, none, none, none, none] [] z) rfl rfl ?_ ?_
      · rintro ⟨x5, M6⟩
        show SW G (d + (n + 1) + 8) YX12_apologizes Z 94 [some (vR 13 0), some (vI a1), some (vI a2), some (vI x1), some (vI x2), some (vI x3), some (vI x4), some (vI x5)] [] M6 (b_X12_apologizes_1c F rc a1 a2 x1 x2 x3 x4 x5 M6) _
        unfold b_X12_apologizes_1c
        refine s_step (g_iload (iRow iCX12_apologizes_2 8 rfl) rfl) ?_
        refine s_step (g_aload_n (iRow iCX12_apologizes_2 9 rfl) rfl rfl) ?_
        refine s_step (g_getR (iRow iCX12_apologizes_2 10 rfl) f12_13 ko_13 (r_13_10 _ _)) ?_
        refine s_step (g_iconst (iRow iCX12_apologizes_2 11 rfl) kc_1) ?_
        refine s_gi (fun h => g_iald (iRow iCX12_apologizes_2 12 rfl) kn_64 ka_64 h) ?_
        refine s_if (g_icmp_ge (tgt := 191) (iRow iCX12_apologizes_2 13 rfl) (by decide)) (fun _ => ?_) (fun _ => ?_)
        · refine s_step (g_keep [false, false, false, false, false, false, false, false] rfl) ?_
          exact s_end (fun h => h)
        · refine s_step (g_iload (iRow iCX12_apologizes_2 14 rfl) rfl) ?_
          refine s_step (g_iload (iRow iCX12_apologizes_2 15 rfl) rfl) ?_
          refine s_step (g_ishr (iRow iCX12_apologizes_2 16 rfl)) ?_
          refine s_step (g_iconst (iRow iCX12_apologizes_2 17 rfl) kc_1) ?_
          refine s_step (g_iand (iRow iCX12_apologizes_2 18 rfl)) ?_
          refine s_bd (fun z => LM G (d + (n + 1) + 8) YX12_apologizes Z 185 [some (vR 13 0), some (vI a1), some (vI a2), some (vI x1), some (vI x2), some (vI x3), some (vI x4), some (vI x5)] [] z) ?_ ?_
          · refine s_ifn (g_if_ne (tgt := 118) (iRow iCX12_apologizes_2 19 rfl) (by decide)) (fun _ => ?_) (fun _ => ?_)
            · refine s_step (g_goto (tgt := 185) (iRow iCX12_apologizes_2 20 rfl) (by decide)) ?_
              exact s_end (fun h => h)
            · refine s_step (g_aload_n (iRow iCX12_apologizes_2 21 rfl) rfl rfl) ?_
              refine s_step (g_getR (iRow iCX12_apologizes_2 22 rfl) f12_144 ko_13 (r_13_58 _ _)) ?_
              refine s_step (g_iload_n (iRow iCX12_apologizes_2 23 rfl) rfl rfl) ?_
              refine s_step (g_iload (iRow iCX12_apologizes_3 0 rfl) rfl) ?_
              refine s_gi (fun h => g_iast (iRow iCX12_apologizes_3 1 rfl) kn_107 ka_107 h) ?_
              refine s_nmM (fun M7 => ?_)
              refine s_step (g_aload_n (iRow iCX12_apologizes_3 2 rfl) rfl rfl) ?_
              refine s_step (g_iload (iRow iCX12_apologizes_3 3 rfl) rfl) ?_
              refine s_cv (stA := []) (fun _ h => h_V (As := [_]) (iRow iCX12_apologizes_3 4 rfl) l12_438 iX12_forgives ko_13 rfl rfl rfl rfl (t_X12_forgives (d + 7) h) rfl (by omega) (by decide) (Nat.le_of_ble_eq_true rfl)) (fun M8 => ?_)
              refine s_step (g_aload_n (iRow iCX12_apologizes_3 5 rfl) rfl rfl) ?_
              refine s_cl (sf := fun x => vI x :: []) (fun _ _ h => h_V (As := []) (iRow iCX12_apologizes_3 6 rfl) l12_371 iX12_falls ko_13 rfl rfl rfl rfl (t_X12_falls (d + 1) h) rfl (by omega) (by decide) (Nat.le_of_ble_eq_true rfl)) (fun x10 M9 => ?_)
              refine s_step (g_pop (iRow iCX12_apologizes_3 7 rfl) rfl) ?_
              refine s_step (g_aload_n (iRow iCX12_apologizes_3 8 rfl) rfl rfl) ?_
              refine s_cv (stA := []) (fun _ h => h_V (As := []) (iRow iCX12_apologizes_3 9 rfl) l12_482 iX12_raisesAll ko_13 rfl rfl rfl rfl (t_X12_raisesAll (d + 1) h) rfl (by omega) (by decide) (Nat.le_of_ble_eq_true rfl)) (fun M11 => ?_)
              refine s_step (g_aload_n (iRow iCX12_apologizes_3 10 rfl) rfl rfl) ?_
              refine s_cl (sf := fun x => vI x :: []) (fun _ _ h => h_V (As := []) (iRow iCX12_apologizes_3 11 rfl) l12_444 iX12_passes ko_13 rfl rfl rfl rfl (t_X12_passes (d + 0) h) rfl (by omega) (by decide) (Nat.le_of_ble_eq_true rfl)) (fun x13 M12 => ?_)
              refine s_step (g_pop (iRow iCX12_apologizes_3 12 rfl) rfl) ?_
              refine s_step (g_aload_n (iRow iCX12_apologizes_3 13 rfl) rfl rfl) ?_
              refine s_step (g_iload_n (iRow iCX12_apologizes_3 14 rfl) rfl rfl) ?_
              refine s_step (g_iconst (iRow iCX12_apologizes_3 15 rfl) kc_1) ?_
              refine s_step (g_iadd (iRow iCX12_apologizes_3 16 rfl)) ?_
              refine s_step (g_iload_n (iRow iCX12_apologizes_3 17 rfl) rfl rfl) ?_
              refine s_cv (stA := []) (fun _ h => h_V (As := [_, _]) (iRow iCX12_apologizes_3 18 rfl) l12_485 iX12_apologizes ko_13 rfl rfl rfl rfl (hrc h) rfl (by omega) (by decide) (Nat.le_of_ble_eq_true rfl)) (fun M14 => ?_)
              refine s_step (g_aload_n (iRow iCX12_apologizes_3 19 rfl) rfl rfl) ?_
              refine s_step (g_getR (iRow iCX12_apologizes_3 20 rfl) f12_123 ko_13 (r_13_49 _ _)) ?_
              refine s_step (g_iconst (iRow iCX12_apologizes_3 21 rfl) kc_0) ?_
              refine s_step (g_iload_n (iRow iCX12_apologizes_3 22 rfl) rfl rfl) ?_
              refine s_gi (fun h => g_iast (iRow iCX12_apologizes_3 23 rfl) kn_100 ka_100 h) ?_
              refine s_nmM (fun M15 => ?_)
              refine s_step (g_aload_n (iRow iCX12_apologizes_4 0 rfl) rfl rfl) ?_
              refine s_step (g_getR (iRow iCX12_apologizes_4 1 rfl) f12_123 ko_13 (r_13_49 _ _)) ?_
              refine s_step (g_iconst (iRow iCX12_apologizes_4 2 rfl) kc_1) ?_
              refine s_step (g_iload (iRow iCX12_apologizes_4 3 rfl) rfl) ?_
              refine s_gi (fun h => g_iast (iRow iCX12_apologizes_4 4 rfl) kn_100 ka_100 h) ?_
              refine s_nmM (fun M16 => ?_)
              refine s_step (g_aload_n (iRow iCX12_apologizes_4 5 rfl) rfl rfl) ?_
              refine s_step (g_getR (iRow iCX12_apologizes_4 6 rfl) f12_123 ko_13 (r_13_49 _ _)) ?_
              refine s_step (g_iconst (iRow iCX12_apologizes_4 7 rfl) kc_2) ?_
              refine s_step (g_iload (iRow iCX12_apologizes_4 8 rfl) rfl) ?_
              refine s_gi (fun h => g_iast (iRow iCX12_apologizes_4 9 rfl) kn_100 ka_100 h) ?_
              refine s_nmM (fun M17 => ?_)
              refine s_step (g_aload_n (iRow iCX12_apologizes_4 10 rfl) rfl rfl) ?_
              refine s_step (g_getR (iRow iCX12_apologizes_4 11 rfl) f12_123 ko_13 (r_13_49 _ _)) ?_
              refine s_step (g_iconst (iRow iCX12_apologizes_4 12 rfl) kc_3) ?_
              refine s_step (g_iload (iRow iCX12_apologizes_4 13 rfl) rfl) ?_
              refine s_gi (fun h => g_iast (iRow iCX12_apologizes_4 14 rfl) kn_100 ka_100 h) ?_
              refine s_nmM (fun M18 => ?_)
              exact s_end (fun h => h)
          · rintro M19
            show SW G (d + (n + 1) + 8) YX12_apologizes Z 185 [some (vR 13 0), some (vI a1), some (vI a2), some (vI x1), some (vI x2), some (vI x3), some (vI x4), some (vI x5)] [] M19 _ _
            try dsimp only
            refine s_step (g_iincc (c := 1) (ls' := [some (vR 13 0), some (vI a1), some (vI a2), some (vI x1), some (vI x2), some (vI x3), some (vI x4), some (vI (x5 + (1 : Int32)))]) (iRow iCX12_apologizes_4 15 rfl) rfl kc_1 (by decide) rfl) ?_
            refine s_step (g_goto (tgt := 94) (iRow iCX12_apologizes_4 16 rfl) (by decide)) ?_
            exact s_end (fun h => h)
      · rintro M20
        show SW G (d + (n + 1) + 8) YX12_apologizes Z 191 [none, none, none, none, none, none, none, none] [] M20 _ _
        try dsimp only
        exact s_retv (iRow iCX12_apologizes_4 17 rfl) rfl
theorem t_X12_apologizes {G : mg} {F : Nat} {a1 : Int32} {a2 : Int32} {M M' : mm} (d : Nat) (h : m_X12_apologizes F a1 a2 M = some M') : CM G yX12_apologizes cX12_apologizes 8 none (d + 13) [vR 13 0, vI a1, vI a2] M none M' := r_X12_apologizes 5 d h
abbrev YX12_repair : mY := (RX12, "repair", cX12_repair, 3, (some .int), none)
set_option maxHeartbeats 400000 in
set_option maxRecDepth 20000 in
theorem t_X12_repair {G : mg} {F : Nat} {a1 : Int32} {a2 : Int32} {M : mm} {x : Int32} {M' : mm} (d : Nat) (h : m_X12_repair F a1 a2 M = some (x, M')) : CM G yX12_repair cX12_repair 3 (some .int) (d + 14) [vR 13 0, vI a1, vI a2] M (some (vI x)) M' := by
  refine ct_i (ls := [some (vR 13 0), some (vI a1), some (vI a2)]) rfl rfl (Nat.le_of_ble_eq_true rfl) (fun Z => ?_) h
  show SW G (d + 14) YX12_repair Z 0 [some (vR 13 0), some (vI a1), some (vI a2)] [] M _ _
  unfold m_X12_repair
  refine s_step (g_aload_n (iRow iCX12_repair_0 0 rfl) rfl rfl) ?_
  refine s_step (g_iconst (iRow iCX12_repair_0 1 rfl) kc_0) ?_
  refine s_step (g_putI (iRow iCX12_repair_0 2 rfl) f12_157 (Or.inl rfl) ko_13) ?_
  refine s_nmM (fun M1 => ?_)
  refine s_step (g_iload_n (iRow iCX12_repair_0 3 rfl) rfl rfl) ?_
  refine s_step (g_iconst (iRow iCX12_repair_0 4 rfl) kc_1) ?_
  refine s_step (g_iconst (iRow iCX12_repair_0 5 rfl) kc_3) ?_
  refine s_cb (sf := fun b => vI (bI b) :: []) (fun _ _ h => h_S (As := [_, _, _]) (iRow iCX12_repair_0 6 rfl) l12_291 iX12_within rfl rfl (t_X12_within (d + 13) h) rfl (by omega) (by decide) (Nat.le_of_ble_eq_true rfl)) (fun b3 M2 => ?_)
  refine s_ifeqb (g_if_eq (tgt := 36) (iRow iCX12_repair_0 7 rfl) (by decide)) (fun _ => ?_) (fun _ => ?_)
  · refine s_step (g_iload_n (iRow iCX12_repair_0 8 rfl) rfl rfl) ?_
    refine s_step (g_iconst (iRow iCX12_repair_0 9 rfl) kc_0) ?_
    refine s_step (g_iload_n (iRow iCX12_repair_0 10 rfl) rfl rfl) ?_
    refine s_cb (sf := fun b => vI (bI b) :: []) (fun _ _ h => h_S (As := [_, _, _]) (iRow iCX12_repair_0 11 rfl) l12_291 iX12_within rfl rfl (t_X12_within (d + 13) h) rfl (by omega) (by decide) (Nat.le_of_ble_eq_true rfl)) (fun b5 M4 => ?_)
    refine s_ifeqb (g_if_eq (tgt := 36) (iRow iCX12_repair_0 12 rfl) (by decide)) (fun _ => ?_) (fun _ => ?_)
    · refine s_step (g_aload_n (iRow iCX12_repair_0 13 rfl) rfl rfl) ?_
      refine s_step (g_getR (iRow iCX12_repair_0 14 rfl) f12_123 ko_13 (r_13_49 _ _)) ?_
      refine s_step (g_iconst (iRow iCX12_repair_0 15 rfl) kc_1) ?_
      refine s_gi (fun h => g_iald (iRow iCX12_repair_0 16 rfl) kn_100 ka_100 h) ?_
      refine s_cl (sf := fun x => vI x :: []) (fun _ _ h => h_S (As := [_]) (iRow iCX12_repair_0 17 rfl) l12_470 iX12_bits rfl rfl (t_X12_bits (d + 13) h) rfl (by omega) (by decide) (Nat.le_of_ble_eq_true rfl)) (fun x7 M6 => ?_)
      refine s_step (g_iload_n (iRow iCX12_repair_0 18 rfl) rfl rfl) ?_
      refine s_if (g_icmp_ge (tgt := 38) (iRow iCX12_repair_0 19 rfl) (by decide)) (fun _ => ?_) (fun _ => ?_)
      · refine s_step (g_aload_n (iRow iCX12_repair_0 22 rfl) rfl rfl) ?_
        refine s_step (g_iconst (iRow iCX12_repair_0 23 rfl) kc_m1) ?_
        refine s_step (g_putI (iRow iCX12_repair_1 0 rfl) f12_479 (Or.inl rfl) ko_13) ?_
        refine s_nmM (fun M8 => ?_)
        refine s_step (g_aload_n (iRow iCX12_repair_1 1 rfl) rfl rfl) ?_
        refine s_step (g_iconst (iRow iCX12_repair_1 2 rfl) kc_0) ?_
        refine s_step (g_iload_n (iRow iCX12_repair_1 3 rfl) rfl rfl) ?_
        refine s_cv (stA := []) (fun _ h => h_V (As := [_, _]) (iRow iCX12_repair_1 4 rfl) l12_485 iX12_apologizes ko_13 rfl rfl rfl rfl (t_X12_apologizes (d + 0) h) rfl (by omega) (by decide) (Nat.le_of_ble_eq_true rfl)) (fun M9 => ?_)
        refine s_step (g_iload_n (iRow iCX12_repair_1 5 rfl) rfl rfl) ?_
        refine s_ifn (g_if_ne (tgt := 60) (iRow iCX12_repair_1 6 rfl) (by decide)) (fun _ => ?_) (fun _ => ?_)
        · refine s_step (g_aload_n (iRow iCX12_repair_1 7 rfl) rfl rfl) ?_
          refine s_step (g_getI (iRow iCX12_repair_1 8 rfl) f12_479 ko_13) ?_
          refine s_step (g_goto (tgt := 68) (iRow iCX12_repair_1 9 rfl) (by decide)) ?_
          exact s_reti (iRow iCX12_repair_1 16 rfl) rfl
        · refine s_step (g_aload_n (iRow iCX12_repair_1 10 rfl) rfl rfl) ?_
          refine s_step (g_getR (iRow iCX12_repair_1 11 rfl) f12_147 ko_13 (r_13_59 _ _)) ?_
          refine s_step (g_iload_n (iRow iCX12_repair_1 12 rfl) rfl rfl) ?_
          refine s_step (g_iconst (iRow iCX12_repair_1 13 rfl) kc_1) ?_
          refine s_step (g_isub (iRow iCX12_repair_1 14 rfl)) ?_
          refine s_gi (fun h => g_iald (iRow iCX12_repair_1 15 rfl) kn_108 ka_108 h) ?_
          exact s_reti (iRow iCX12_repair_1 16 rfl) rfl
      · refine s_step (g_iconst (iRow iCX12_repair_0 20 rfl) kc_m1) ?_
        exact s_reti (iRow iCX12_repair_0 21 rfl) rfl
    · refine s_step (g_iconst (iRow iCX12_repair_0 20 rfl) kc_m1) ?_
      exact s_reti (iRow iCX12_repair_0 21 rfl) rfl
  · refine s_step (g_iconst (iRow iCX12_repair_0 20 rfl) kc_m1) ?_
    exact s_reti (iRow iCX12_repair_0 21 rfl) rfl
abbrev YX12_hear : mY := (RX12, "hear", cX12_hear, 3, (some .boolean), none)
set_option maxHeartbeats 400000 in
set_option maxRecDepth 20000 in
theorem t_X12_hear {G : mg} {F : Nat} {a1 : Int32} {a2 : Int32} {M : mm} {x : Bool} {M' : mm} (d : Nat) (h : m_X12_hear F a1 a2 M = some (x, M')) : CM G yX12_hear cX12_hear 3 (some .boolean) (d + 1) [vR 13 0, vI a1, vI a2] M (some (vI (bI x))) M' := by
  refine ct_z (ls := [some (vR 13 0), some (vI a1), some (vI a2)]) rfl rfl (Nat.le_of_ble_eq_true rfl) (fun Z => ?_) h
  show SW G (d + 1) YX12_hear Z 0 [some (vR 13 0), some (vI a1), some (vI a2)] [] M _ _
  unfold m_X12_hear
  refine s_step (g_aload_n (iRow iCX12_hear_0 0 rfl) rfl rfl) ?_
  refine s_step (g_iconst (iRow iCX12_hear_0 1 rfl) kc_0) ?_
  refine s_step (g_putI (iRow iCX12_hear_0 2 rfl) f12_157 (Or.inl rfl) ko_13) ?_
  refine s_nmM (fun M1 => ?_)
  refine s_step (g_aload_n (iRow iCX12_hear_0 3 rfl) rfl rfl) ?_
  refine s_step (g_iload_n (iRow iCX12_hear_0 4 rfl) rfl rfl) ?_
  refine s_cb (sf := fun b => vI (bI b) :: []) (fun _ _ h => h_V (As := [_]) (iRow iCX12_hear_0 5 rfl) l12_425 iX12_isStone ko_13 rfl rfl rfl rfl (t_X12_isStone (d + 0) h) rfl (by omega) (by decide) (Nat.le_of_ble_eq_true rfl)) (fun b3 M2 => ?_)
  refine s_ifeqb (g_if_eq (tgt := 24) (iRow iCX12_hear_0 6 rfl) (by decide)) (fun _ => ?_) (fun _ => ?_)
  · refine s_step (g_aload_n (iRow iCX12_hear_0 7 rfl) rfl rfl) ?_
    refine s_step (g_getR (iRow iCX12_hear_0 8 rfl) f12_114 ko_13 (r_13_46 _ _)) ?_
    refine s_step (g_iconst (iRow iCX12_hear_0 9 rfl) kc_0) ?_
    refine s_gi (fun h => g_iald (iRow iCX12_hear_0 10 rfl) kn_97 ka_97 h) ?_
    refine s_step (g_bipush (iRow iCX12_hear_0 11 rfl) kb_10) ?_
    refine s_ifn (g_icmp_ne (tgt := 26) (iRow iCX12_hear_0 12 rfl) (by decide)) (fun _ => ?_) (fun _ => ?_)
    · refine s_step (g_iconst (iRow iCX12_hear_0 13 rfl) kc_0) ?_
      exact s_retz (b := false) (iRow iCX12_hear_0 14 rfl) rfl rfl
    · refine s_step (g_aload_n (iRow iCX12_hear_0 15 rfl) rfl rfl) ?_
      refine s_step (g_getR (iRow iCX12_hear_0 16 rfl) f12_117 ko_13 (r_13_47 _ _)) ?_
      refine s_step (g_aload_n (iRow iCX12_hear_0 17 rfl) rfl rfl) ?_
      refine s_step (g_getR (iRow iCX12_hear_0 18 rfl) f12_114 ko_13 (r_13_46 _ _)) ?_
      refine s_step (g_iconst (iRow iCX12_hear_0 19 rfl) kc_0) ?_
      refine s_gi (fun h => g_iald (iRow iCX12_hear_0 20 rfl) kn_97 ka_97 h) ?_
      refine s_step (g_iload_n (iRow iCX12_hear_0 21 rfl) rfl rfl) ?_
      refine s_gi (fun h => g_iast (iRow iCX12_hear_0 22 rfl) kn_98 ka_98 h) ?_
      refine s_nmM (fun M4 => ?_)
      refine s_step (g_aload_n (iRow iCX12_hear_0 23 rfl) rfl rfl) ?_
      refine s_step (g_getR (iRow iCX12_hear_1 0 rfl) f12_120 ko_13 (r_13_48 _ _)) ?_
      refine s_step (g_aload_n (iRow iCX12_hear_1 1 rfl) rfl rfl) ?_
      refine s_step (g_getR (iRow iCX12_hear_1 2 rfl) f12_114 ko_13 (r_13_46 _ _)) ?_
      refine s_step (g_iconst (iRow iCX12_hear_1 3 rfl) kc_0) ?_
      refine s_gi (fun h => g_iald (iRow iCX12_hear_1 4 rfl) kn_97 ka_97 h) ?_
      refine s_step (g_iload_n (iRow iCX12_hear_1 5 rfl) rfl rfl) ?_
      refine s_gi (fun h => g_zast (iRow iCX12_hear_1 6 rfl) kn_99 ka_99 h) ?_
      refine s_nmM (fun M5 => ?_)
      refine s_step (g_aload_n (iRow iCX12_hear_1 7 rfl) rfl rfl) ?_
      refine s_step (g_getR (iRow iCX12_hear_1 8 rfl) f12_114 ko_13 (r_13_46 _ _)) ?_
      refine s_step (g_iconst (iRow iCX12_hear_1 9 rfl) kc_0) ?_
      refine s_step (g_dup2 (iRow iCX12_hear_1 10 rfl) rfl rfl) ?_
      refine s_gi (fun h => g_iald (iRow iCX12_hear_1 11 rfl) kn_97 ka_97 h) ?_
      refine s_step (g_iconst (iRow iCX12_hear_1 12 rfl) kc_1) ?_
      refine s_step (g_iadd (iRow iCX12_hear_1 13 rfl)) ?_
      refine s_gi (fun h => g_iast (iRow iCX12_hear_1 14 rfl) kn_97 ka_97 h) ?_
      refine s_nmM (fun M6 => ?_)
      refine s_step (g_iconst (iRow iCX12_hear_1 15 rfl) kc_1) ?_
      exact s_retz (b := true) (iRow iCX12_hear_1 16 rfl) rfl rfl
  · refine s_step (g_iconst (iRow iCX12_hear_0 13 rfl) kc_0) ?_
    exact s_retz (b := false) (iRow iCX12_hear_0 14 rfl) rfl rfl
abbrev YX12_isAsHeard : mY := (RX12, "isAsHeard", cX12_isAsHeard, 3, (some .boolean), none)
set_option maxHeartbeats 400000 in
set_option maxRecDepth 20000 in
theorem t_X12_isAsHeard {G : mg} {F : Nat} {a1 : Int32} {M : mm} {x : Bool} {M' : mm} (d : Nat) (h : m_X12_isAsHeard F a1 M = some (x, M')) : CM G yX12_isAsHeard cX12_isAsHeard 3 (some .boolean) (d + 0) [vR 13 0, vI a1] M (some (vI (bI x))) M' := by
  refine ct_z (ls := [some (vR 13 0), some (vI a1), none]) rfl rfl (Nat.le_of_ble_eq_true rfl) (fun Z => ?_) h
  show SW G (d + 0) YX12_isAsHeard Z 0 [some (vR 13 0), some (vI a1), none] [] M _ _
  unfold m_X12_isAsHeard
  refine s_step (g_iconst (iRow iCX12_isAsHeard_0 0 rfl) kc_0) ?_
  refine s_step (g_istore_n (ls' := [some (vR 13 0), some (vI a1), some (vI (0 : Int32))]) (iRow iCX12_isAsHeard_0 1 rfl) rfl (by decide) rfl) ?_
  refine s_lp (fun z => [some (vR 13 0), some (vI a1), some (vI z)]) (fun _ => M) (Sum.elim (fun z => LM G (d + 0) YX12_isAsHeard Z 40 [none, none, none] [] M) (fun z => LM G (d + 0) YX12_isAsHeard Z 48 [none, none, none] [] M)) rfl rfl ?_ ?_
  · rintro x1
    show SW G (d + 0) YX12_isAsHeard Z 2 [some (vR 13 0), some (vI a1), some (vI x1)] [] M (b_X12_isAsHeard_1c F a1 M x1) _
    unfold b_X12_isAsHeard_1c
    refine s_step (g_iload_n (iRow iCX12_isAsHeard_0 2 rfl) rfl rfl) ?_
    refine s_step (g_aload_n (iRow iCX12_isAsHeard_0 3 rfl) rfl rfl) ?_
    refine s_step (g_getR (iRow iCX12_isAsHeard_0 4 rfl) f12_114 ko_13 (r_13_46 _ _)) ?_
    refine s_step (g_iconst (iRow iCX12_isAsHeard_0 5 rfl) kc_0) ?_
    refine s_gi (fun h => g_iald (iRow iCX12_isAsHeard_0 6 rfl) kn_97 ka_97 h) ?_
    refine s_if (g_icmp_ge (tgt := 48) (iRow iCX12_isAsHeard_0 7 rfl) (by decide)) (fun _ => ?_) (fun _ => ?_)
    · refine s_step (g_keep [false, false, false] rfl) ?_
      exact s_end (fun h => h)
    · refine s_step (g_iload_n (iRow iCX12_isAsHeard_0 8 rfl) rfl rfl) ?_
      refine s_step (g_aload_n (iRow iCX12_isAsHeard_0 9 rfl) rfl rfl) ?_
      refine s_step (g_getR (iRow iCX12_isAsHeard_0 10 rfl) f12_117 ko_13 (r_13_47 _ _)) ?_
      refine s_step (g_iload_n (iRow iCX12_isAsHeard_0 11 rfl) rfl rfl) ?_
      refine s_gi (fun h => g_iald (iRow iCX12_isAsHeard_0 12 rfl) kn_98 ka_98 h) ?_
      refine s_step (g_ishr (iRow iCX12_isAsHeard_0 13 rfl)) ?_
      refine s_step (g_iconst (iRow iCX12_isAsHeard_0 14 rfl) kc_1) ?_
      refine s_step (g_iand (iRow iCX12_isAsHeard_0 15 rfl)) ?_
      refine s_step (g_iconst (iRow iCX12_isAsHeard_0 16 rfl) kc_1) ?_
      refine s_bd (fun z => LM G (d + 0) YX12_isAsHeard Z 31 [some (vR 13 0), some (vI a1), some (vI x1)] [vI z] M) ?_ ?_
      · refine s_ifn (g_icmp_ne (tgt := 30) (iRow iCX12_isAsHeard_0 17 rfl) (by decide)) (fun _ => ?_) (fun _ => ?_)
        · refine s_step (g_iconst (iRow iCX12_isAsHeard_0 18 rfl) kc_1) ?_
          refine s_step (g_goto (tgt := 31) (iRow iCX12_isAsHeard_0 19 rfl) (by decide)) ?_
          exact s_end (fun h => h)
        · refine s_step (g_iconst (iRow iCX12_isAsHeard_0 20 rfl) kc_0) ?_
          exact s_end (fun h => h)
      · rintro x2
        show SW G (d + 0) YX12_isAsHeard Z 31 [some (vR 13 0), some (vI a1), some (vI x1)] [vI x2] M _ _
        try dsimp only
        refine s_step (g_aload_n (iRow iCX12_isAsHeard_0 21 rfl) rfl rfl) ?_
        refine s_step (g_getR (iRow iCX12_isAsHeard_0 22 rfl) f12_120 ko_13 (r_13_48 _ _)) ?_
        refine s_step (g_iload_n (iRow iCX12_isAsHeard_0 23 rfl) rfl rfl) ?_
        refine s_gi (fun h => g_zald (iRow iCX12_isAsHeard_1 0 rfl) kn_99 ka_99 h) ?_
        refine s_if (g_icmp_eq (tgt := 42) (iRow iCX12_isAsHeard_1 1 rfl) (by decide)) (fun _ => ?_) (fun _ => ?_)
        · refine s_step (g_iincc (c := 1) (ls' := [some (vR 13 0), some (vI a1), some (vI (x1 + (1 : Int32)))]) (iRow iCX12_isAsHeard_1 4 rfl) rfl kc_1 (by decide) rfl) ?_
          refine s_step (g_goto (tgt := 2) (iRow iCX12_isAsHeard_1 5 rfl) (by decide)) ?_
          exact s_end (fun h => h)
        · refine s_step (g_keep [false, false, false] rfl) ?_
          exact s_end (fun h => h)
  · intro z
    rcases z with z | z
    · obtain ⟨⟩ := z
      show SW G (d + 0) YX12_isAsHeard Z 40 [none, none, none] [] M _ _
      try dsimp only [Sum.elim]
      refine s_step (g_iconst (iRow iCX12_isAsHeard_1 2 rfl) kc_0) ?_
      exact s_retz (b := false) (iRow iCX12_isAsHeard_1 3 rfl) rfl rfl
    · obtain ⟨⟩ := z
      show SW G (d + 0) YX12_isAsHeard Z 48 [none, none, none] [] M _ _
      try dsimp only [Sum.elim]
      refine s_step (g_iconst (iRow iCX12_isAsHeard_1 6 rfl) kc_1) ?_
      exact s_retz (b := true) (iRow iCX12_isAsHeard_1 7 rfl) rfl rfl
abbrev YX12_broken : mY := (RX12, "broken", cX12_broken, 11, (some .int), none)
set_option maxHeartbeats 400000 in
set_option maxRecDepth 20000 in
theorem t_X12_broken {G : mg} {F : Nat} {a1 : Int32} {a2 : Int32} {M : mm} {x : Int32} {M' : mm} (d : Nat) (h : m_X12_broken F a1 a2 M = some (x, M')) : CM G yX12_broken cX12_broken 11 (some .int) (d + 7) [vR 13 0, vI a1, vI a2] M (some (vI x)) M' := by
  refine ct_i (ls := [some (vR 13 0), some (vI a1), some (vI a2), none, none, none, none, none, none, none, none]) rfl rfl (Nat.le_of_ble_eq_true rfl) (fun Z => ?_) h
  show SW G (d + 7) YX12_broken Z 0 [some (vR 13 0), some (vI a1), some (vI a2), none, none, none, none, none, none, none, none] [] M _ _
  unfold m_X12_broken
  refine s_step (g_aload_n (iRow iCX12_broken_0 0 rfl) rfl rfl) ?_
  refine s_step (g_iconst (iRow iCX12_broken_0 1 rfl) kc_0) ?_
  refine s_step (g_putI (iRow iCX12_broken_0 2 rfl) f12_157 (Or.inl rfl) ko_13) ?_
  refine s_nmM (fun M1 => ?_)
  refine s_step (g_iload_n (iRow iCX12_broken_0 3 rfl) rfl rfl) ?_
  refine s_step (g_iconst (iRow iCX12_broken_0 4 rfl) kc_0) ?_
  refine s_step (g_bipush (iRow iCX12_broken_0 5 rfl) kb_10) ?_
  refine s_cb (sf := fun b => vI (bI b) :: []) (fun _ _ h => h_S (As := [_, _, _]) (iRow iCX12_broken_0 6 rfl) l12_291 iX12_within rfl rfl (t_X12_within (d + 6) h) rfl (by omega) (by decide) (Nat.le_of_ble_eq_true rfl)) (fun b3 M2 => ?_)
  refine s_ifeqb (g_if_eq (tgt := 24) (iRow iCX12_broken_0 7 rfl) (by decide)) (fun _ => ?_) (fun _ => ?_)
  · refine s_step (g_iload_n (iRow iCX12_broken_0 8 rfl) rfl rfl) ?_
    refine s_step (g_iconst (iRow iCX12_broken_0 9 rfl) kc_0) ?_
    refine s_step (g_iconst (iRow iCX12_broken_0 10 rfl) kc_3) ?_
    refine s_cb (sf := fun b => vI (bI b) :: []) (fun _ _ h => h_S (As := [_, _, _]) (iRow iCX12_broken_0 11 rfl) l12_291 iX12_within rfl rfl (t_X12_within (d + 6) h) rfl (by omega) (by decide) (Nat.le_of_ble_eq_true rfl)) (fun b5 M4 => ?_)
    refine s_ifneb (g_if_ne (tgt := 26) (iRow iCX12_broken_0 12 rfl) (by decide)) (fun _ => ?_) (fun _ => ?_)
    · refine s_step (g_aload_n (iRow iCX12_broken_0 15 rfl) rfl rfl) ?_
      refine s_cl (sf := fun x => vI x :: []) (fun _ _ h => h_V (As := []) (iRow iCX12_broken_0 16 rfl) l12_461 iX12_loose ko_13 rfl rfl rfl rfl (t_X12_loose (d + 5) h) rfl (by omega) (by decide) (Nat.le_of_ble_eq_true rfl)) (fun x7 M6 => ?_)
      refine s_step (g_istore_n (ls' := [some (vR 13 0), some (vI a1), some (vI a2), some (vI x7), none, none, none, none, none, none, none]) (iRow iCX12_broken_0 17 rfl) rfl (by decide) rfl) ?_
      refine s_step (g_iconst (iRow iCX12_broken_0 18 rfl) kc_0) ?_
      refine s_step (g_istore (ls' := [some (vR 13 0), some (vI a1), some (vI a2), some (vI x7), some (vI (0 : Int32)), none, none, none, none, none, none]) (iRow iCX12_broken_0 19 rfl) (by decide) rfl) ?_
      refine s_step (g_sipush (iRow iCX12_broken_0 20 rfl) ks_1023) ?_
      refine s_step (g_istore (ls' := [some (vR 13 0), some (vI a1), some (vI a2), some (vI x7), some (vI (0 : Int32)), some (vI (1023 : Int32)), none, none, none, none, none]) (iRow iCX12_broken_0 21 rfl) (by decide) rfl) ?_
      refine s_step (g_iconst (iRow iCX12_broken_0 22 rfl) kc_0) ?_
      refine s_step (g_istore (ls' := [some (vR 13 0), some (vI a1), some (vI a2), some (vI x7), some (vI (0 : Int32)), some (vI (1023 : Int32)), some (vI (0 : Int32)), none, none, none, none]) (iRow iCX12_broken_0 23 rfl) (by decide) rfl) ?_
      refine s_step (g_iconst (iRow iCX12_broken_1 0 rfl) kc_0) ?_
      refine s_step (g_istore (ls' := [some (vR 13 0), some (vI a1), some (vI a2), some (vI x7), some (vI (0 : Int32)), some (vI (1023 : Int32)), some (vI (0 : Int32)), some (vI (0 : Int32)), none, none, none]) (iRow iCX12_broken_1 1 rfl) (by decide) rfl) ?_
      refine s_lp (fun z => [some (vR 13 0), some (vI a1), some (vI a2), some (vI x7), some (vI (0 : Int32)), some (vI (1023 : Int32)), some (vI (0 : Int32)), some (vI (z.1)), none, none, none]) (fun z => z.2) (fun z => LM G (d + 7) YX12_broken Z 66 [some (vR 13 0), some (vI a1), some (vI a2), some (vI x7), some (vI (0 : Int32)), some (vI (1023 : Int32)), some (vI (0 : Int32)), none, none, none, none] [] z) rfl rfl ?_ ?_
      · rintro ⟨x8, M9⟩
        show SW G (d + 7) YX12_broken Z 45 [some (vR 13 0), some (vI a1), some (vI a2), some (vI x7), some (vI (0 : Int32)), some (vI (1023 : Int32)), some (vI (0 : Int32)), some (vI x8), none, none, none] [] M9 (b_X12_broken_1c F x8 M9) _
        unfold b_X12_broken_1c
        refine s_step (g_iload (iRow iCX12_broken_1 2 rfl) rfl) ?_
        refine s_step (g_bipush (iRow iCX12_broken_1 3 rfl) kb_10) ?_
        refine s_if (g_icmp_ge (tgt := 66) (iRow iCX12_broken_1 4 rfl) (by decide)) (fun _ => ?_) (fun _ => ?_)
        · refine s_step (g_keep [true, true, true, true, true, true, true, false, false, false, false] rfl) ?_
          exact s_end (fun h => h)
        · refine s_step (g_aload_n (iRow iCX12_broken_1 5 rfl) rfl rfl) ?_
          refine s_step (g_getR (iRow iCX12_broken_1 6 rfl) f12_150 ko_13 (r_13_61 _ _)) ?_
          refine s_step (g_iload (iRow iCX12_broken_1 7 rfl) rfl) ?_
          refine s_step (g_iconst (iRow iCX12_broken_1 8 rfl) kc_0) ?_
          refine s_gi (fun h => g_iast (iRow iCX12_broken_1 9 rfl) kn_109 ka_109 h) ?_
          refine s_nmM (fun M10 => ?_)
          refine s_step (g_iincc (c := 1) (ls' := [some (vR 13 0), some (vI a1), some (vI a2), some (vI x7), some (vI (0 : Int32)), some (vI (1023 : Int32)), some (vI (0 : Int32)), some (vI (x8 + (1 : Int32))), none, none, none]) (iRow iCX12_broken_1 10 rfl) rfl kc_1 (by decide) rfl) ?_
          refine s_step (g_goto (tgt := 45) (iRow iCX12_broken_1 11 rfl) (by decide)) ?_
          exact s_end (fun h => h)
      · rintro M11
        show SW G (d + 7) YX12_broken Z 66 [some (vR 13 0), some (vI a1), some (vI a2), some (vI x7), some (vI (0 : Int32)), some (vI (1023 : Int32)), some (vI (0 : Int32)), none, none, none, none] [] M11 _ _
        try dsimp only
        refine s_step (g_iconst (iRow iCX12_broken_1 12 rfl) kc_0) ?_
        refine s_step (g_istore (ls' := [some (vR 13 0), some (vI a1), some (vI a2), some (vI x7), some (vI (0 : Int32)), some (vI (1023 : Int32)), some (vI (0 : Int32)), some (vI (0 : Int32)), none, none, none]) (iRow iCX12_broken_1 13 rfl) (by decide) rfl) ?_
        refine s_lp (fun z => [some (vR 13 0), some (vI a1), some (vI a2), some (vI x7), some (vI (z.1)), some (vI (z.2.1)), some (vI (z.2.2.1)), some (vI (z.2.2.2.1)), none, none, none]) (fun z => z.2.2.2.2) (fun z => LM G (d + 7) YX12_broken Z 175 [some (vR 13 0), none, some (vI a2), none, some (vI (z.1)), some (vI (z.2.1)), some (vI (z.2.2.1)), none, none, none, none] [] z.2.2.2) rfl rfl ?_ ?_
        · rintro ⟨x12, x13, x14, x15, M16⟩
          show SW G (d + 7) YX12_broken Z 69 [some (vR 13 0), some (vI a1), some (vI a2), some (vI x7), some (vI x12), some (vI x13), some (vI x14), some (vI x15), none, none, none] [] M16 (b_X12_broken_2c F a1 x7 x12 x13 x14 x15 M16) _
          unfold b_X12_broken_2c
          refine s_step (g_iload (iRow iCX12_broken_1 14 rfl) rfl) ?_
          refine s_step (g_aload_n (iRow iCX12_broken_1 15 rfl) rfl rfl) ?_
          refine s_cl (sf := fun x => vI x :: [vI x15]) (fun _ _ h => h_V (As := []) (iRow iCX12_broken_1 16 rfl) l12_464 iX12_allOaths ko_13 rfl rfl rfl rfl (t_X12_allOaths (d + 6) h) rfl (by omega) (by decide) (Nat.le_of_ble_eq_true rfl)) (fun x18 M17 => ?_)
          refine s_if (g_icmp_gt (tgt := 175) (iRow iCX12_broken_1 17 rfl) (by decide)) (fun _ => ?_) (fun _ => ?_)
          · refine s_step (g_keep [true, false, true, false, true, true, true, false, false, false, false] rfl) ?_
            exact s_end (fun h => h)
          · refine s_step (g_iload (iRow iCX12_broken_1 18 rfl) rfl) ?_
            refine s_step (g_iload_n (iRow iCX12_broken_1 19 rfl) rfl rfl) ?_
            refine s_step (g_iconst (iRow iCX12_broken_1 20 rfl) kc_m1) ?_
            refine s_step (g_ixor (iRow iCX12_broken_1 21 rfl)) ?_
            refine s_step (g_iand (iRow iCX12_broken_1 22 rfl)) ?_
            refine s_bd (fun z => LM G (d + 7) YX12_broken Z 169 [some (vR 13 0), some (vI a1), some (vI a2), some (vI x7), some (vI (z.1)), some (vI (z.2.1)), some (vI (z.2.2.1)), some (vI x15), none, none, none] [] z.2.2.2) ?_ ?_
            · refine s_ifn (g_if_ne (tgt := 169) (iRow iCX12_broken_1 23 rfl) (by decide)) (fun _ => ?_) (fun _ => ?_)
              · refine s_step (g_iload (iRow iCX12_broken_2 0 rfl) rfl) ?_
                refine s_cl (sf := fun x => vI x :: []) (fun _ _ h => h_S (As := [_]) (iRow iCX12_broken_2 1 rfl) l12_470 iX12_bits rfl rfl (t_X12_bits (d + 6) h) rfl (by omega) (by decide) (Nat.le_of_ble_eq_true rfl)) (fun x20 M19 => ?_)
                refine s_step (g_iload_n (iRow iCX12_broken_2 2 rfl) rfl rfl) ?_
                refine s_if (g_icmp_le (tgt := 99) (iRow iCX12_broken_2 3 rfl) (by decide)) (fun _ => ?_) (fun _ => ?_)
                · refine s_step (g_aload_n (iRow iCX12_broken_2 5 rfl) rfl rfl) ?_
                  refine s_step (g_iload (iRow iCX12_broken_2 6 rfl) rfl) ?_
                  refine s_cl (sf := fun x => vI x :: []) (fun _ _ h => h_V (As := [_]) (iRow iCX12_broken_2 7 rfl) l12_467 iX12_upIf ko_13 rfl rfl rfl rfl (t_X12_upIf (d + 0) h) rfl (by omega) (by decide) (Nat.le_of_ble_eq_true rfl)) (fun x22 M21 => ?_)
                  refine s_step (g_istore (ls' := [some (vR 13 0), some (vI a1), some (vI a2), some (vI x7), some (vI x12), some (vI x13), some (vI x14), some (vI x15), some (vI x22), none, none]) (iRow iCX12_broken_2 8 rfl) (by decide) rfl) ?_
                  refine s_step (g_aload_n (iRow iCX12_broken_2 9 rfl) rfl rfl) ?_
                  refine s_step (g_iload (iRow iCX12_broken_2 10 rfl) rfl) ?_
                  refine s_cb (sf := fun b => vI (bI b) :: []) (fun _ _ h => h_V (As := [_]) (iRow iCX12_broken_2 11 rfl) l12_488 iX12_isAsHeard ko_13 rfl rfl rfl rfl (t_X12_isAsHeard (d + 6) h) rfl (by omega) (by decide) (Nat.le_of_ble_eq_true rfl)) (fun b24 M23 => ?_)
                  refine s_ifneb (g_if_ne (tgt := 119) (iRow iCX12_broken_2 12 rfl) (by decide)) (fun _ => ?_) (fun _ => ?_)
                  · refine s_step (g_iincc (c := 1) (ls' := [some (vR 13 0), some (vI a1), some (vI a2), some (vI x7), some (vI (x12 + (1 : Int32))), some (vI x13), some (vI x14), some (vI x15), some (vI x22), none, none]) (iRow iCX12_broken_2 14 rfl) rfl kc_1 (by decide) rfl) ?_
                    refine s_step (g_iload (iRow iCX12_broken_2 15 rfl) rfl) ?_
                    refine s_step (g_iload (iRow iCX12_broken_2 16 rfl) rfl) ?_
                    refine s_step (g_iand (iRow iCX12_broken_2 17 rfl)) ?_
                    refine s_nmI (fun x25 => ?_)
                    refine s_step (g_istore (ls' := [some (vR 13 0), some (vI a1), some (vI a2), some (vI x7), some (vI (x12 + (1 : Int32))), some (vI x25), some (vI x14), some (vI x15), some (vI x22), none, none]) (iRow iCX12_broken_2 18 rfl) (by decide) rfl) ?_
                    refine s_step (g_iload (iRow iCX12_broken_2 19 rfl) rfl) ?_
                    refine s_step (g_iload (iRow iCX12_broken_2 20 rfl) rfl) ?_
                    refine s_step (g_ior (iRow iCX12_broken_2 21 rfl)) ?_
                    refine s_nmI (fun x26 => ?_)
                    refine s_step (g_istore (ls' := [some (vR 13 0), some (vI a1), some (vI a2), some (vI x7), some (vI (x12 + (1 : Int32))), some (vI x25), some (vI x26), some (vI x15), some (vI x22), none, none]) (iRow iCX12_broken_2 22 rfl) (by decide) rfl) ?_
                    refine s_step (g_iconst (iRow iCX12_broken_2 23 rfl) kc_0) ?_
                    refine s_step (g_istore (ls' := [some (vR 13 0), some (vI a1), some (vI a2), some (vI x7), some (vI (x12 + (1 : Int32))), some (vI x25), some (vI x26), some (vI x15), some (vI x22), some (vI (0 : Int32)), none]) (iRow iCX12_broken_3 0 rfl) (by decide) rfl) ?_
                    refine s_lp (fun z => [some (vR 13 0), some (vI a1), some (vI a2), some (vI x7), some (vI (x12 + (1 : Int32))), some (vI x25), some (vI x26), some (vI x15), some (vI x22), some (vI (z.1)), none]) (fun z => z.2) (fun z => LM G (d + 7) YX12_broken Z 169 [some (vR 13 0), some (vI a1), some (vI a2), some (vI x7), some (vI (x12 + (1 : Int32))), some (vI x25), some (vI x26), some (vI x15), none, none, none] [] z) rfl rfl ?_ ?_
                    · rintro ⟨x27, M28⟩
                      show SW G (d + 7) YX12_broken Z 139 [some (vR 13 0), some (vI a1), some (vI a2), some (vI x7), some (vI (x12 + (1 : Int32))), some (vI x25), some (vI x26), some (vI x15), some (vI x22), some (vI x27), none] [] M28 (b_X12_broken_3c F x22 x27 M28) _
                      unfold b_X12_broken_3c
                      refine s_step (g_iload (iRow iCX12_broken_3 1 rfl) rfl) ?_
                      refine s_step (g_bipush (iRow iCX12_broken_3 2 rfl) kb_10) ?_
                      refine s_if (g_icmp_ge (tgt := 169) (iRow iCX12_broken_3 3 rfl) (by decide)) (fun _ => ?_) (fun _ => ?_)
                      · refine s_step (g_keep [true, true, true, true, true, true, true, true, false, false, false] rfl) ?_
                        exact s_end (fun h => h)
                      · refine s_step (g_aload_n (iRow iCX12_broken_3 4 rfl) rfl rfl) ?_
                        refine s_step (g_getR (iRow iCX12_broken_3 5 rfl) f12_150 ko_13 (r_13_61 _ _)) ?_
                        refine s_step (g_iload (iRow iCX12_broken_3 6 rfl) rfl) ?_
                        refine s_step (g_dup2 (iRow iCX12_broken_3 7 rfl) rfl rfl) ?_
                        refine s_gi (fun h => g_iald (iRow iCX12_broken_3 8 rfl) kn_109 ka_109 h) ?_
                        refine s_step (g_iload (iRow iCX12_broken_3 9 rfl) rfl) ?_
                        refine s_step (g_iload (iRow iCX12_broken_3 10 rfl) rfl) ?_
                        refine s_step (g_ishr (iRow iCX12_broken_3 11 rfl)) ?_
                        refine s_step (g_iconst (iRow iCX12_broken_3 12 rfl) kc_1) ?_
                        refine s_step (g_iand (iRow iCX12_broken_3 13 rfl)) ?_
                        refine s_step (g_iadd (iRow iCX12_broken_3 14 rfl)) ?_
                        refine s_gi (fun h => g_iast (iRow iCX12_broken_3 15 rfl) kn_109 ka_109 h) ?_
                        refine s_nmM (fun M29 => ?_)
                        refine s_step (g_iincc (c := 1) (ls' := [some (vR 13 0), some (vI a1), some (vI a2), some (vI x7), some (vI (x12 + (1 : Int32))), some (vI x25), some (vI x26), some (vI x15), some (vI x22), some (vI (x27 + (1 : Int32))), none]) (iRow iCX12_broken_3 16 rfl) rfl kc_1 (by decide) rfl) ?_
                        refine s_step (g_goto (tgt := 139) (iRow iCX12_broken_3 17 rfl) (by decide)) ?_
                        exact s_end (fun h => h)
                    · rintro M30
                      show SW G (d + 7) YX12_broken Z 169 [some (vR 13 0), some (vI a1), some (vI a2), some (vI x7), some (vI (x12 + (1 : Int32))), some (vI x25), some (vI x26), some (vI x15), none, none, none] [] M30 _ _
                      try dsimp only
                      exact s_end (fun h => h)
                  · refine s_step (g_goto (tgt := 169) (iRow iCX12_broken_2 13 rfl) (by decide)) ?_
                    refine s_step (g_keep [true, true, true, true, true, true, true, true, false, false, false] rfl) ?_
                    exact s_end (fun h => h)
                · refine s_step (g_goto (tgt := 169) (iRow iCX12_broken_2 4 rfl) (by decide)) ?_
                  exact s_end (fun h => h)
              · exact s_end (fun h => h)
            · rintro ⟨x31, x32, x33, M34⟩
              show SW G (d + 7) YX12_broken Z 169 [some (vR 13 0), some (vI a1), some (vI a2), some (vI x7), some (vI x31), some (vI x32), some (vI x33), some (vI x15), none, none, none] [] M34 _ _
              try dsimp only
              refine s_step (g_iincc (c := 1) (ls' := [some (vR 13 0), some (vI a1), some (vI a2), some (vI x7), some (vI x31), some (vI x32), some (vI x33), some (vI (x15 + (1 : Int32))), none, none, none]) (iRow iCX12_broken_3 18 rfl) rfl kc_1 (by decide) rfl) ?_
              refine s_step (g_goto (tgt := 69) (iRow iCX12_broken_3 19 rfl) (by decide)) ?_
              exact s_end (fun h => h)
        · rintro ⟨x35, x36, x37, M38⟩
          show SW G (d + 7) YX12_broken Z 175 [some (vR 13 0), none, some (vI a2), none, some (vI x35), some (vI x36), some (vI x37), none, none, none, none] [] M38 _ _
          try dsimp only
          refine s_step (g_iload (iRow iCX12_broken_3 20 rfl) rfl) ?_
          refine s_ifn (g_if_ne (tgt := 182) (iRow iCX12_broken_3 21 rfl) (by decide)) (fun _ => ?_) (fun _ => ?_)
          · refine s_step (g_iconst (iRow iCX12_broken_3 22 rfl) kc_m1) ?_
            exact s_reti (iRow iCX12_broken_3 23 rfl) rfl
          · refine s_step (g_iload_n (iRow iCX12_broken_4 0 rfl) rfl rfl) ?_
            refine s_step (g_iconst (iRow iCX12_broken_4 1 rfl) kc_3) ?_
            refine s_if (g_icmp_ge (tgt := 209) (iRow iCX12_broken_4 2 rfl) (by decide)) (fun _ => ?_) (fun _ => ?_)
            · refine s_step (g_iconst (iRow iCX12_broken_4 14 rfl) kc_m1) ?_
              refine s_step (g_istore (ls' := [some (vR 13 0), none, some (vI a2), none, some (vI x35), some (vI x36), some (vI x37), some (vI (-1 : Int32)), none, none, none]) (iRow iCX12_broken_4 15 rfl) (by decide) rfl) ?_
              refine s_step (g_iconst (iRow iCX12_broken_4 16 rfl) kc_0) ?_
              refine s_step (g_istore (ls' := [some (vR 13 0), none, some (vI a2), none, some (vI x35), some (vI x36), some (vI x37), some (vI (-1 : Int32)), some (vI (0 : Int32)), none, none]) (iRow iCX12_broken_4 17 rfl) (by decide) rfl) ?_
              refine s_step (g_iconst (iRow iCX12_broken_4 18 rfl) kc_0) ?_
              refine s_step (g_istore (ls' := [some (vR 13 0), none, some (vI a2), none, some (vI x35), some (vI x36), some (vI x37), some (vI (-1 : Int32)), some (vI (0 : Int32)), some (vI (0 : Int32)), none]) (iRow iCX12_broken_4 19 rfl) (by decide) rfl) ?_
              refine s_step (g_keep [true, false, false, false, true, false, false, true, true, true, false] rfl) ?_
              refine s_lp (fun z => [some (vR 13 0), none, none, none, some (vI x35), none, none, some (vI (z.1)), some (vI (z.2.1)), some (vI (z.2.2.1)), none]) (fun z => z.2.2.2) (fun z => LM G (d + 7) YX12_broken Z 275 [none, none, none, none, none, none, none, some (vI (z.1)), none, none, none] [] z.2) rfl rfl ?_ ?_
              · rintro ⟨x39, x40, x41, M42⟩
                show SW G (d + 7) YX12_broken Z 218 [some (vR 13 0), none, none, none, some (vI x35), none, none, some (vI x39), some (vI x40), some (vI x41), none] [] M42 (b_X12_broken_4c F x35 x39 x40 x41 M42) _
                unfold b_X12_broken_4c
                refine s_step (g_iload (iRow iCX12_broken_4 20 rfl) rfl) ?_
                refine s_step (g_aload_n (iRow iCX12_broken_4 21 rfl) rfl rfl) ?_
                refine s_step (g_getR (iRow iCX12_broken_4 22 rfl) f12_13 ko_13 (r_13_10 _ _)) ?_
                refine s_step (g_iconst (iRow iCX12_broken_4 23 rfl) kc_2) ?_
                refine s_gi (fun h => g_iald (iRow iCX12_broken_5 0 rfl) kn_64 ka_64 h) ?_
                refine s_if (g_icmp_ge (tgt := 275) (iRow iCX12_broken_5 1 rfl) (by decide)) (fun _ => ?_) (fun _ => ?_)
                · refine s_step (g_keep [false, false, false, false, false, false, false, true, false, false, false] rfl) ?_
                  exact s_end (fun h => h)
                · refine s_step (g_aload_n (iRow iCX12_broken_5 2 rfl) rfl rfl) ?_
                  refine s_step (g_getR (iRow iCX12_broken_5 3 rfl) f12_150 ko_13 (r_13_61 _ _)) ?_
                  refine s_step (g_iload (iRow iCX12_broken_5 4 rfl) rfl) ?_
                  refine s_gi (fun h => g_iald (iRow iCX12_broken_5 5 rfl) kn_109 ka_109 h) ?_
                  refine s_step (g_iload (iRow iCX12_broken_5 6 rfl) rfl) ?_
                  refine s_step (g_aload_n (iRow iCX12_broken_5 7 rfl) rfl rfl) ?_
                  refine s_step (g_getR (iRow iCX12_broken_5 8 rfl) f12_150 ko_13 (r_13_61 _ _)) ?_
                  refine s_step (g_iload (iRow iCX12_broken_5 9 rfl) rfl) ?_
                  refine s_gi (fun h => g_iald (iRow iCX12_broken_5 10 rfl) kn_109 ka_109 h) ?_
                  refine s_step (g_isub (iRow iCX12_broken_5 11 rfl)) ?_
                  refine s_step (g_min (iRow iCX12_broken_5 12 rfl) w12_456 (by omega) (Nat.le_of_ble_eq_true rfl)) ?_
                  refine s_nmI (fun x43 => ?_)
                  refine s_step (g_istore (ls' := [some (vR 13 0), none, none, none, some (vI x35), none, none, some (vI x39), some (vI x40), some (vI x41), some (vI x43)]) (iRow iCX12_broken_5 13 rfl) (by decide) rfl) ?_
                  refine s_step (g_iload (iRow iCX12_broken_5 14 rfl) rfl) ?_
                  refine s_step (g_iload (iRow iCX12_broken_5 15 rfl) rfl) ?_
                  refine s_bd (fun z => LM G (d + 7) YX12_broken Z 269 [some (vR 13 0), none, none, none, some (vI x35), none, none, some (vI (z.1)), some (vI (z.2)), some (vI x41), none] [] M42) ?_ ?_
                  · refine s_if (g_icmp_gt (tgt := 261) (iRow iCX12_broken_5 16 rfl) (by decide)) (fun _ => ?_) (fun _ => ?_)
                    · refine s_step (g_iload (iRow iCX12_broken_5 18 rfl) rfl) ?_
                      refine s_step (g_istore (ls' := [some (vR 13 0), none, none, none, some (vI x35), none, none, some (vI x39), some (vI x43), some (vI x41), some (vI x43)]) (iRow iCX12_broken_5 19 rfl) (by decide) rfl) ?_
                      refine s_step (g_iload (iRow iCX12_broken_5 20 rfl) rfl) ?_
                      refine s_step (g_istore (ls' := [some (vR 13 0), none, none, none, some (vI x35), none, none, some (vI x41), some (vI x43), some (vI x41), some (vI x43)]) (iRow iCX12_broken_5 21 rfl) (by decide) rfl) ?_
                      refine s_step (g_keep [true, false, false, false, true, false, false, true, true, true, false] rfl) ?_
                      exact s_end (fun h => h)
                    · refine s_step (g_goto (tgt := 269) (iRow iCX12_broken_5 17 rfl) (by decide)) ?_
                      refine s_step (g_keep [true, false, false, false, true, false, false, true, true, true, false] rfl) ?_
                      exact s_end (fun h => h)
                  · rintro ⟨x44, x45⟩
                    show SW G (d + 7) YX12_broken Z 269 [some (vR 13 0), none, none, none, some (vI x35), none, none, some (vI x44), some (vI x45), some (vI x41), none] [] M42 _ _
                    try dsimp only
                    refine s_step (g_iincc (c := 1) (ls' := [some (vR 13 0), none, none, none, some (vI x35), none, none, some (vI x44), some (vI x45), some (vI (x41 + (1 : Int32))), none]) (iRow iCX12_broken_5 22 rfl) rfl kc_1 (by decide) rfl) ?_
                    refine s_step (g_goto (tgt := 218) (iRow iCX12_broken_5 23 rfl) (by decide)) ?_
                    exact s_end (fun h => h)
              · rintro ⟨x46, M47⟩
                show SW G (d + 7) YX12_broken Z 275 [none, none, none, none, none, none, none, some (vI x46), none, none, none] [] M47 _ _
                try dsimp only
                refine s_step (g_iload (iRow iCX12_broken_6 0 rfl) rfl) ?_
                exact s_reti (iRow iCX12_broken_6 1 rfl) rfl
            · refine s_step (g_iload_n (iRow iCX12_broken_4 3 rfl) rfl rfl) ?_
              refine s_ifn (g_if_ne (tgt := 196) (iRow iCX12_broken_4 4 rfl) (by decide)) (fun _ => ?_) (fun _ => ?_)
              · refine s_step (g_iload (iRow iCX12_broken_4 5 rfl) rfl) ?_
                refine s_step (g_goto (tgt := 208) (iRow iCX12_broken_4 6 rfl) (by decide)) ?_
                exact s_reti (iRow iCX12_broken_4 13 rfl) rfl
              · refine s_step (g_iload_n (iRow iCX12_broken_4 7 rfl) rfl rfl) ?_
                refine s_step (g_iconst (iRow iCX12_broken_4 8 rfl) kc_1) ?_
                refine s_ifn (g_icmp_ne (tgt := 206) (iRow iCX12_broken_4 9 rfl) (by decide)) (fun _ => ?_) (fun _ => ?_)
                · refine s_step (g_iload (iRow iCX12_broken_4 10 rfl) rfl) ?_
                  refine s_step (g_goto (tgt := 208) (iRow iCX12_broken_4 11 rfl) (by decide)) ?_
                  exact s_reti (iRow iCX12_broken_4 13 rfl) rfl
                · refine s_step (g_iload (iRow iCX12_broken_4 12 rfl) rfl) ?_
                  exact s_reti (iRow iCX12_broken_4 13 rfl) rfl
    · refine s_step (g_iconst (iRow iCX12_broken_0 13 rfl) kc_m1) ?_
      exact s_reti (iRow iCX12_broken_0 14 rfl) rfl
  · refine s_step (g_iconst (iRow iCX12_broken_0 13 rfl) kc_m1) ?_
    exact s_reti (iRow iCX12_broken_0 14 rfl) rfl
abbrev YX12_hasBy : mY := (RX12, "hasBy", cX12_hasBy, 8, (some .int), none)
set_option maxHeartbeats 400000 in
set_option maxRecDepth 20000 in
theorem t_X12_hasBy {G : mg} {F : Nat} {a1 : Int32} {a2 : Int32} {M : mm} {x : Int32} {M' : mm} (d : Nat) (h : m_X12_hasBy F a1 a2 M = some (x, M')) : CM G yX12_hasBy cX12_hasBy 8 (some .int) (d + 7) [vR 13 0, vI a1, vI a2] M (some (vI x)) M' := by
  refine ct_i (ls := [some (vR 13 0), some (vI a1), some (vI a2), none, none, none, none, none]) rfl rfl (Nat.le_of_ble_eq_true rfl) (fun Z => ?_) h
  show SW G (d + 7) YX12_hasBy Z 0 [some (vR 13 0), some (vI a1), some (vI a2), none, none, none, none, none] [] M _ _
  unfold m_X12_hasBy
  refine s_step (g_iconst (iRow iCX12_hasBy_0 0 rfl) kc_0) ?_
  refine s_step (g_istore_n (ls' := [some (vR 13 0), some (vI a1), some (vI a2), some (vI (0 : Int32)), none, none, none, none]) (iRow iCX12_hasBy_0 1 rfl) rfl (by decide) rfl) ?_
  refine s_step (g_iconst (iRow iCX12_hasBy_0 2 rfl) kc_0) ?_
  refine s_step (g_istore (ls' := [some (vR 13 0), some (vI a1), some (vI a2), some (vI (0 : Int32)), some (vI (0 : Int32)), none, none, none]) (iRow iCX12_hasBy_0 3 rfl) (by decide) rfl) ?_
  refine s_lp (fun z => [some (vR 13 0), some (vI a1), some (vI a2), some (vI (z.1)), some (vI (z.2.1)), none, none, none]) (fun z => z.2.2) (fun z => LM G (d + 7) YX12_hasBy Z 45 [some (vR 13 0), some (vI a1), some (vI a2), some (vI (z.1)), none, none, none, none] [] z.2) rfl rfl ?_ ?_
  · rintro ⟨x1, x2, M3⟩
    show SW G (d + 7) YX12_hasBy Z 5 [some (vR 13 0), some (vI a1), some (vI a2), some (vI x1), some (vI x2), none, none, none] [] M3 (b_X12_hasBy_1c F a2 x1 x2 M3) _
    unfold b_X12_hasBy_1c
    refine s_step (g_iload (iRow iCX12_hasBy_0 4 rfl) rfl) ?_
    refine s_step (g_aload_n (iRow iCX12_hasBy_0 5 rfl) rfl rfl) ?_
    refine s_step (g_getR (iRow iCX12_hasBy_0 6 rfl) f12_13 ko_13 (r_13_10 _ _)) ?_
    refine s_step (g_iconst (iRow iCX12_hasBy_0 7 rfl) kc_0) ?_
    refine s_gi (fun h => g_iald (iRow iCX12_hasBy_0 8 rfl) kn_64 ka_64 h) ?_
    refine s_if (g_icmp_ge (tgt := 45) (iRow iCX12_hasBy_0 9 rfl) (by decide)) (fun _ => ?_) (fun _ => ?_)
    · refine s_step (g_keep [true, true, true, true, false, false, false, false] rfl) ?_
      exact s_end (fun h => h)
    · refine s_step (g_iload_n (iRow iCX12_hasBy_0 10 rfl) rfl rfl) ?_
      refine s_step (g_iload_n (iRow iCX12_hasBy_0 11 rfl) rfl rfl) ?_
      refine s_step (g_iload (iRow iCX12_hasBy_0 12 rfl) rfl) ?_
      refine s_step (g_ishr (iRow iCX12_hasBy_0 13 rfl)) ?_
      refine s_step (g_iconst (iRow iCX12_hasBy_0 14 rfl) kc_1) ?_
      refine s_step (g_iand (iRow iCX12_hasBy_0 15 rfl)) ?_
      refine s_step (g_iconst (iRow iCX12_hasBy_0 16 rfl) kc_1) ?_
      refine s_bd (fun z => LM G (d + 7) YX12_hasBy Z 37 [some (vR 13 0), some (vI a1), some (vI a2), none, some (vI x2), none, none, none] [vI (z.1), vI x1] z.2) ?_ ?_
      · refine s_ifn (g_icmp_ne (tgt := 36) (iRow iCX12_hasBy_0 17 rfl) (by decide)) (fun _ => ?_) (fun _ => ?_)
        · refine s_step (g_aload_n (iRow iCX12_hasBy_0 18 rfl) rfl rfl) ?_
          refine s_step (g_iload (iRow iCX12_hasBy_0 19 rfl) rfl) ?_
          refine s_cl (sf := fun x => vI x :: [vI x1]) (fun _ _ h => h_V (As := [_]) (iRow iCX12_hasBy_0 20 rfl) l12_393 iX12_oathsOf ko_13 rfl rfl rfl rfl (t_X12_oathsOf (d + 6) h) rfl (by omega) (by decide) (Nat.le_of_ble_eq_true rfl)) (fun x5 M4 => ?_)
          refine s_step (g_goto (tgt := 37) (iRow iCX12_hasBy_0 21 rfl) (by decide)) ?_
          refine s_step (g_keep [true, true, true, false, true, false, false, false] rfl) ?_
          exact s_end (fun h => h)
        · refine s_step (g_iconst (iRow iCX12_hasBy_0 22 rfl) kc_0) ?_
          refine s_step (g_keep [true, true, true, false, true, false, false, false] rfl) ?_
          exact s_end (fun h => h)
      · rintro ⟨x6, M7⟩
        show SW G (d + 7) YX12_hasBy Z 37 [some (vR 13 0), some (vI a1), some (vI a2), none, some (vI x2), none, none, none] [vI x6, vI x1] M7 _ _
        try dsimp only
        refine s_step (g_ior (iRow iCX12_hasBy_0 23 rfl)) ?_
        refine s_nmI (fun x8 => ?_)
        refine s_step (g_istore_n (ls' := [some (vR 13 0), some (vI a1), some (vI a2), some (vI x8), some (vI x2), none, none, none]) (iRow iCX12_hasBy_1 0 rfl) rfl (by decide) rfl) ?_
        refine s_step (g_iincc (c := 1) (ls' := [some (vR 13 0), some (vI a1), some (vI a2), some (vI x8), some (vI (x2 + (1 : Int32))), none, none, none]) (iRow iCX12_hasBy_1 1 rfl) rfl kc_1 (by decide) rfl) ?_
        refine s_step (g_goto (tgt := 5) (iRow iCX12_hasBy_1 2 rfl) (by decide)) ?_
        exact s_end (fun h => h)
  · rintro ⟨x9, M10⟩
    show SW G (d + 7) YX12_hasBy Z 45 [some (vR 13 0), some (vI a1), some (vI a2), some (vI x9), none, none, none, none] [] M10 _ _
    try dsimp only
    refine s_step (g_aload_n (iRow iCX12_hasBy_1 3 rfl) rfl rfl) ?_
    refine s_step (g_iload_n (iRow iCX12_hasBy_1 4 rfl) rfl rfl) ?_
    refine s_cl (sf := fun x => vI x :: []) (fun _ _ h => h_V (As := [_]) (iRow iCX12_hasBy_1 5 rfl) l12_467 iX12_upIf ko_13 rfl rfl rfl rfl (t_X12_upIf (d + 0) h) rfl (by omega) (by decide) (Nat.le_of_ble_eq_true rfl)) (fun x12 M11 => ?_)
    refine s_step (g_istore (ls' := [some (vR 13 0), some (vI a1), some (vI a2), some (vI x9), some (vI x12), none, none, none]) (iRow iCX12_hasBy_1 6 rfl) (by decide) rfl) ?_
    refine s_step (g_aload_n (iRow iCX12_hasBy_1 7 rfl) rfl rfl) ?_
    refine s_step (g_iload_n (iRow iCX12_hasBy_1 8 rfl) rfl rfl) ?_
    refine s_cl (sf := fun x => vI x :: []) (fun _ _ h => h_V (As := [_]) (iRow iCX12_hasBy_1 9 rfl) l12_393 iX12_oathsOf ko_13 rfl rfl rfl rfl (t_X12_oathsOf (d + 6) h) rfl (by omega) (by decide) (Nat.le_of_ble_eq_true rfl)) (fun x14 M13 => ?_)
    refine s_step (g_aload_n (iRow iCX12_hasBy_1 10 rfl) rfl rfl) ?_
    refine s_step (g_getR (iRow iCX12_hasBy_1 11 rfl) f12_123 ko_13 (r_13_49 _ _)) ?_
    refine s_step (g_iconst (iRow iCX12_hasBy_1 12 rfl) kc_1) ?_
    refine s_gi (fun h => g_iald (iRow iCX12_hasBy_1 13 rfl) kn_100 ka_100 h) ?_
    refine s_step (g_iload_n (iRow iCX12_hasBy_1 14 rfl) rfl rfl) ?_
    refine s_step (g_aload_n (iRow iCX12_hasBy_1 15 rfl) rfl rfl) ?_
    refine s_cl (sf := fun x => vI x :: [vI x9, vI (M13.1 100 0 (Int32.toNatClampNeg (1 : Int32))), vI x14]) (fun _ _ h => h_V (As := []) (iRow iCX12_hasBy_1 16 rfl) l12_461 iX12_loose ko_13 rfl rfl rfl rfl (t_X12_loose (d + 5) h) rfl (by omega) (by decide) (Nat.le_of_ble_eq_true rfl)) (fun x16 M15 => ?_)
    refine s_step (g_iand (iRow iCX12_hasBy_1 17 rfl)) ?_
    refine s_step (g_ior (iRow iCX12_hasBy_1 18 rfl)) ?_
    refine s_step (g_iconst (iRow iCX12_hasBy_1 19 rfl) kc_m1) ?_
    refine s_step (g_ixor (iRow iCX12_hasBy_1 20 rfl)) ?_
    refine s_step (g_iand (iRow iCX12_hasBy_1 21 rfl)) ?_
    refine s_nmI (fun x17 => ?_)
    refine s_step (g_istore (ls' := [some (vR 13 0), some (vI a1), some (vI a2), some (vI x9), some (vI x12), some (vI x17), none, none]) (iRow iCX12_hasBy_1 22 rfl) (by decide) rfl) ?_
    refine s_step (g_iload_n (iRow iCX12_hasBy_1 23 rfl) rfl rfl) ?_
    refine s_step (g_iload_n (iRow iCX12_hasBy_2 0 rfl) rfl rfl) ?_
    refine s_step (g_ishr (iRow iCX12_hasBy_2 1 rfl)) ?_
    refine s_step (g_iconst (iRow iCX12_hasBy_2 2 rfl) kc_1) ?_
    refine s_step (g_iand (iRow iCX12_hasBy_2 3 rfl)) ?_
    refine s_step (g_iconst (iRow iCX12_hasBy_2 4 rfl) kc_1) ?_
    refine s_bd (fun z => LM G (d + 7) YX12_hasBy Z 94 [some (vR 13 0), none, none, none, some (vI x12), some (vI x17), none, none] [vI z] M15) ?_ ?_
    · refine s_ifn (g_icmp_ne (tgt := 93) (iRow iCX12_hasBy_2 5 rfl) (by decide)) (fun _ => ?_) (fun _ => ?_)
      · refine s_step (g_aload_n (iRow iCX12_hasBy_2 6 rfl) rfl rfl) ?_
        refine s_step (g_getR (iRow iCX12_hasBy_2 7 rfl) f12_29 ko_13 (r_13_15 _ _)) ?_
        refine s_step (g_iload_n (iRow iCX12_hasBy_2 8 rfl) rfl rfl) ?_
        refine s_gi (fun h => g_iald (iRow iCX12_hasBy_2 9 rfl) kn_69 ka_69 h) ?_
        refine s_step (g_goto (tgt := 94) (iRow iCX12_hasBy_2 10 rfl) (by decide)) ?_
        refine s_step (g_keep [true, false, false, false, true, true, false, false] rfl) ?_
        exact s_end (fun h => h)
      · refine s_step (g_iconst (iRow iCX12_hasBy_2 11 rfl) kc_0) ?_
        refine s_step (g_keep [true, false, false, false, true, true, false, false] rfl) ?_
        exact s_end (fun h => h)
    · rintro x18
      show SW G (d + 7) YX12_hasBy Z 94 [some (vR 13 0), none, none, none, some (vI x12), some (vI x17), none, none] [vI x18] M15 _ _
      try dsimp only
      refine s_step (g_istore (ls' := [some (vR 13 0), none, none, none, some (vI x12), some (vI x17), some (vI x18), none]) (iRow iCX12_hasBy_2 12 rfl) (by decide) rfl) ?_
      refine s_step (g_aload_n (iRow iCX12_hasBy_2 13 rfl) rfl rfl) ?_
      refine s_step (g_iload (iRow iCX12_hasBy_2 14 rfl) rfl) ?_
      refine s_cv (stA := []) (fun _ h => h_V (As := [_]) (iRow iCX12_hasBy_2 15 rfl) l12_407 iX12_laysRests ko_13 rfl rfl rfl rfl (t_X12_laysRests (d + 6) h) rfl (by omega) (by decide) (Nat.le_of_ble_eq_true rfl)) (fun M19 => ?_)
      refine s_step (g_iconst (iRow iCX12_hasBy_2 16 rfl) kc_0) ?_
      refine s_step (g_istore (ls' := [some (vR 13 0), none, none, none, some (vI x12), some (vI x17), some (vI x18), some (vI (0 : Int32))]) (iRow iCX12_hasBy_2 17 rfl) (by decide) rfl) ?_
      refine s_lp (fun z => [some (vR 13 0), none, none, none, some (vI x12), some (vI x17), some (vI (z.1)), some (vI (z.2))]) (fun _ => M19) (fun z => LM G (d + 7) YX12_hasBy Z 162 [none, none, none, none, none, none, some (vI z), none] [] M19) rfl rfl ?_ ?_
      · rintro ⟨x20, x21⟩
        show SW G (d + 7) YX12_hasBy Z 105 [some (vR 13 0), none, none, none, some (vI x12), some (vI x17), some (vI x20), some (vI x21)] [] M19 (b_X12_hasBy_2c F x12 x17 M19 x20 x21) _
        unfold b_X12_hasBy_2c
        refine s_step (g_iload (iRow iCX12_hasBy_2 18 rfl) rfl) ?_
        refine s_step (g_aload_n (iRow iCX12_hasBy_2 19 rfl) rfl rfl) ?_
        refine s_step (g_getR (iRow iCX12_hasBy_2 20 rfl) f12_13 ko_13 (r_13_10 _ _)) ?_
        refine s_step (g_iconst (iRow iCX12_hasBy_2 21 rfl) kc_2) ?_
        refine s_gi (fun h => g_iald (iRow iCX12_hasBy_2 22 rfl) kn_64 ka_64 h) ?_
        refine s_if (g_icmp_ge (tgt := 162) (iRow iCX12_hasBy_2 23 rfl) (by decide)) (fun _ => ?_) (fun _ => ?_)
        · refine s_step (g_keep [false, false, false, false, false, false, true, false] rfl) ?_
          exact s_end (fun h => h)
        · refine s_step (g_iload (iRow iCX12_hasBy_3 0 rfl) rfl) ?_
          refine s_step (g_iload (iRow iCX12_hasBy_3 1 rfl) rfl) ?_
          refine s_step (g_iload (iRow iCX12_hasBy_3 2 rfl) rfl) ?_
          refine s_step (g_ishr (iRow iCX12_hasBy_3 3 rfl)) ?_
          refine s_step (g_iconst (iRow iCX12_hasBy_3 4 rfl) kc_1) ?_
          refine s_step (g_iand (iRow iCX12_hasBy_3 5 rfl)) ?_
          refine s_step (g_iconst (iRow iCX12_hasBy_3 6 rfl) kc_1) ?_
          refine s_bd (fun z => LM G (d + 7) YX12_hasBy Z 153 [some (vR 13 0), none, none, none, some (vI x12), some (vI x17), none, some (vI x21)] [vI z, vI x20] M19) ?_ ?_
          · refine s_nj 152 (fun z => [some (vR 13 0), none, none, none, some (vI x12), some (vI x17), none, some (vI x21)]) (fun z => [vI x20]) (fun z => M19) ?_ (fun j152 hj152 => ?_)
            · intro _
              show SW G (d + 7) YX12_hasBy Z 152 [some (vR 13 0), none, none, none, some (vI x12), some (vI x17), none, some (vI x21)] [vI x20] M19 _ _
              try dsimp only
              refine s_step (g_iconst (iRow iCX12_hasBy_3 20 rfl) kc_0) ?_
              exact s_end (fun h => h)
            · refine s_ifn (g_icmp_ne (tgt := 152) (iRow iCX12_hasBy_3 7 rfl) (by decide)) (fun _ => ?_) (fun _ => ?_)
              · refine s_step (g_aload_n (iRow iCX12_hasBy_3 8 rfl) rfl rfl) ?_
                refine s_step (g_getR (iRow iCX12_hasBy_3 9 rfl) f12_141 ko_13 (r_13_56 _ _)) ?_
                refine s_step (g_iload (iRow iCX12_hasBy_3 10 rfl) rfl) ?_
                refine s_gi (fun h => g_iald (iRow iCX12_hasBy_3 11 rfl) kn_106 ka_106 h) ?_
                refine s_step (g_iload (iRow iCX12_hasBy_3 12 rfl) rfl) ?_
                refine s_step (g_iand (iRow iCX12_hasBy_3 13 rfl)) ?_
                refine s_if (g_if_eq (tgt := 152) (iRow iCX12_hasBy_3 14 rfl) (by decide)) (fun _ => ?_) (fun _ => ?_)
                · refine s_step (g_keep [true, false, false, false, true, true, false, true] rfl) ?_
                  exact hj152 _
                · refine s_step (g_aload_n (iRow iCX12_hasBy_3 15 rfl) rfl rfl) ?_
                  refine s_step (g_getR (iRow iCX12_hasBy_3 16 rfl) f12_50 ko_13 (r_13_22 _ _)) ?_
                  refine s_step (g_iload (iRow iCX12_hasBy_3 17 rfl) rfl) ?_
                  refine s_gi (fun h => g_iald (iRow iCX12_hasBy_3 18 rfl) kn_76 ka_76 h) ?_
                  refine s_step (g_goto (tgt := 153) (iRow iCX12_hasBy_3 19 rfl) (by decide)) ?_
                  refine s_step (g_keep [true, false, false, false, true, true, false, true] rfl) ?_
                  exact s_end (fun h => h)
              · refine s_step (g_keep [true, false, false, false, true, true, false, true] rfl) ?_
                exact hj152 _
          · rintro x22
            show SW G (d + 7) YX12_hasBy Z 153 [some (vR 13 0), none, none, none, some (vI x12), some (vI x17), none, some (vI x21)] [vI x22, vI x20] M19 _ _
            try dsimp only
            refine s_step (g_iadd (iRow iCX12_hasBy_3 21 rfl)) ?_
            refine s_nmI (fun x23 => ?_)
            refine s_step (g_istore (ls' := [some (vR 13 0), none, none, none, some (vI x12), some (vI x17), some (vI x23), some (vI x21)]) (iRow iCX12_hasBy_3 22 rfl) (by decide) rfl) ?_
            refine s_step (g_iincc (c := 1) (ls' := [some (vR 13 0), none, none, none, some (vI x12), some (vI x17), some (vI x23), some (vI (x21 + (1 : Int32)))]) (iRow iCX12_hasBy_3 23 rfl) rfl kc_1 (by decide) rfl) ?_
            refine s_step (g_goto (tgt := 105) (iRow iCX12_hasBy_4 0 rfl) (by decide)) ?_
            exact s_end (fun h => h)
      · rintro x24
        show SW G (d + 7) YX12_hasBy Z 162 [none, none, none, none, none, none, some (vI x24), none] [] M19 _ _
        try dsimp only
        refine s_step (g_iload (iRow iCX12_hasBy_4 1 rfl) rfl) ?_
        exact s_reti (iRow iCX12_hasBy_4 2 rfl) rfl
abbrev YX12_gains : mY := (RX12, "gains", cX12_gains, 3, (some .int), none)
set_option maxHeartbeats 400000 in
set_option maxRecDepth 20000 in
theorem t_X12_gains {G : mg} {F : Nat} {a1 : Int32} {a2 : Int32} {M : mm} {x : Int32} {M' : mm} (d : Nat) (h : m_X12_gains F a1 a2 M = some (x, M')) : CM G yX12_gains cX12_gains 3 (some .int) (d + 8) [vR 13 0, vI a1, vI a2] M (some (vI x)) M' := by
  refine ct_i (ls := [some (vR 13 0), some (vI a1), some (vI a2)]) rfl rfl (Nat.le_of_ble_eq_true rfl) (fun Z => ?_) h
  show SW G (d + 8) YX12_gains Z 0 [some (vR 13 0), some (vI a1), some (vI a2)] [] M _ _
  unfold m_X12_gains
  refine s_step (g_aload_n (iRow iCX12_gains_0 0 rfl) rfl rfl) ?_
  refine s_step (g_aload_n (iRow iCX12_gains_0 1 rfl) rfl rfl) ?_
  refine s_step (g_iload_n (iRow iCX12_gains_0 2 rfl) rfl rfl) ?_
  refine s_cb (sf := fun b => vI (bI b) :: [vR 13 0]) (fun _ _ h => h_V (As := [_]) (iRow iCX12_gains_0 3 rfl) l12_419 iX12_isPerson ko_13 rfl rfl rfl rfl (t_X12_isPerson (d + 7) h) rfl (by omega) (by decide) (Nat.le_of_ble_eq_true rfl)) (fun b2 M1 => ?_)
  refine s_bd (fun z => LM G (d + 8) YX12_gains Z 30 [some (vR 13 0), some (vI a1), some (vI a2)] [vI z, vR 13 0] M1) ?_ ?_
  · refine s_nj 29 (fun z => [some (vR 13 0), some (vI a1), some (vI a2)]) (fun z => [vR 13 0]) (fun z => M1) ?_ (fun j29 hj29 => ?_)
    · intro _
      show SW G (d + 8) YX12_gains Z 29 [some (vR 13 0), some (vI a1), some (vI a2)] [vR 13 0] M1 _ _
      try dsimp only
      refine s_step (g_iconst (iRow iCX12_gains_0 17 rfl) kc_1) ?_
      exact s_end (fun h => h)
    · refine s_ifeqb (g_if_eq (tgt := 29) (iRow iCX12_gains_0 4 rfl) (by decide)) (fun _ => ?_) (fun _ => ?_)
      · refine s_step (g_iload_n (iRow iCX12_gains_0 5 rfl) rfl rfl) ?_
        refine s_if (g_if_lt (tgt := 29) (iRow iCX12_gains_0 6 rfl) (by decide)) (fun _ => ?_) (fun _ => ?_)
        · exact hj29 _
        · refine s_step (g_iload_n (iRow iCX12_gains_0 7 rfl) rfl rfl) ?_
          refine s_step (g_iconst (iRow iCX12_gains_0 8 rfl) kc_1) ?_
          refine s_step (g_aload_n (iRow iCX12_gains_0 9 rfl) rfl rfl) ?_
          refine s_step (g_getR (iRow iCX12_gains_0 10 rfl) f12_13 ko_13 (r_13_10 _ _)) ?_
          refine s_step (g_iconst (iRow iCX12_gains_0 11 rfl) kc_0) ?_
          refine s_gi (fun h => g_iald (iRow iCX12_gains_0 12 rfl) kn_64 ka_64 h) ?_
          refine s_step (g_ishl (iRow iCX12_gains_0 13 rfl)) ?_
          refine s_if (g_icmp_ge (tgt := 29) (iRow iCX12_gains_0 14 rfl) (by decide)) (fun _ => ?_) (fun _ => ?_)
          · exact hj29 _
          · refine s_step (g_iconst (iRow iCX12_gains_0 15 rfl) kc_0) ?_
            refine s_step (g_goto (tgt := 30) (iRow iCX12_gains_0 16 rfl) (by decide)) ?_
            exact s_end (fun h => h)
      · exact hj29 _
  · rintro x3
    show SW G (d + 8) YX12_gains Z 30 [some (vR 13 0), some (vI a1), some (vI a2)] [vI x3, vR 13 0] M1 _ _
    try dsimp only
    refine s_step (g_putI (iRow iCX12_gains_0 18 rfl) f12_157 (Or.inl rfl) ko_13) ?_
    refine s_nmM (fun M4 => ?_)
    refine s_step (g_aload_n (iRow iCX12_gains_0 19 rfl) rfl rfl) ?_
    refine s_step (g_getI (iRow iCX12_gains_0 20 rfl) f12_157 ko_13) ?_
    refine s_step (g_iconst (iRow iCX12_gains_0 21 rfl) kc_1) ?_
    refine s_ifn (g_icmp_ne (tgt := 45) (iRow iCX12_gains_0 22 rfl) (by decide)) (fun _ => ?_) (fun _ => ?_)
    · refine s_step (g_iconst (iRow iCX12_gains_0 23 rfl) kc_0) ?_
      refine s_step (g_goto (tgt := 51) (iRow iCX12_gains_1 0 rfl) (by decide)) ?_
      exact s_reti (iRow iCX12_gains_1 5 rfl) rfl
    · refine s_step (g_aload_n (iRow iCX12_gains_1 1 rfl) rfl rfl) ?_
      refine s_step (g_iload_n (iRow iCX12_gains_1 2 rfl) rfl rfl) ?_
      refine s_step (g_iload_n (iRow iCX12_gains_1 3 rfl) rfl rfl) ?_
      refine s_cl (sf := fun x => vI x :: []) (fun _ _ h => h_V (As := [_, _]) (iRow iCX12_gains_1 4 rfl) l12_491 iX12_hasBy ko_13 rfl rfl rfl rfl (t_X12_hasBy (d + 0) h) rfl (by omega) (by decide) (Nat.le_of_ble_eq_true rfl)) (fun x6 M5 => ?_)
      exact s_reti (iRow iCX12_gains_1 5 rfl) rfl
abbrev YX12_rests : mY := (RX12, "rests", cX12_rests, 6, (some .int), none)
set_option maxHeartbeats 400000 in
set_option maxRecDepth 20000 in
theorem t_X12_rests {G : mg} {F : Nat} {a1 : Int32} {M : mm} {x : Int32} {M' : mm} (d : Nat) (h : m_X12_rests F a1 M = some (x, M')) : CM G yX12_rests cX12_rests 6 (some .int) (d + 8) [vR 13 0, vI a1] M (some (vI x)) M' := by
  refine ct_i (ls := [some (vR 13 0), some (vI a1), none, none, none, none]) rfl rfl (Nat.le_of_ble_eq_true rfl) (fun Z => ?_) h
  show SW G (d + 8) YX12_rests Z 0 [some (vR 13 0), some (vI a1), none, none, none, none] [] M _ _
  unfold m_X12_rests
  refine s_step (g_aload_n (iRow iCX12_rests_0 0 rfl) rfl rfl) ?_
  refine s_step (g_iconst (iRow iCX12_rests_0 1 rfl) kc_0) ?_
  refine s_step (g_putI (iRow iCX12_rests_0 2 rfl) f12_157 (Or.inl rfl) ko_13) ?_
  refine s_nmM (fun M1 => ?_)
  refine s_step (g_iload_n (iRow iCX12_rests_0 3 rfl) rfl rfl) ?_
  refine s_step (g_iconst (iRow iCX12_rests_0 4 rfl) kc_m1) ?_
  refine s_if (g_icmp_ge (tgt := 12) (iRow iCX12_rests_0 5 rfl) (by decide)) (fun _ => ?_) (fun _ => ?_)
  · refine s_step (g_iconst (iRow iCX12_rests_0 8 rfl) kc_0) ?_
    refine s_step (g_istore_n (ls' := [some (vR 13 0), some (vI a1), some (vI (0 : Int32)), none, none, none]) (iRow iCX12_rests_0 9 rfl) rfl (by decide) rfl) ?_
    refine s_step (g_iconst (iRow iCX12_rests_0 10 rfl) kc_0) ?_
    refine s_step (g_istore_n (ls' := [some (vR 13 0), some (vI a1), some (vI (0 : Int32)), some (vI (0 : Int32)), none, none]) (iRow iCX12_rests_0 11 rfl) rfl (by decide) rfl) ?_
    refine s_lp (fun z => [some (vR 13 0), some (vI a1), some (vI (z.1)), some (vI (z.2.1)), none, none]) (fun z => z.2.2) (Sum.elim (fun z => LM G (d + 8) YX12_rests Z 98 [none, none, none, some (vI (z.1)), none, none] [] z.2) (fun z => LM G (d + 8) YX12_rests Z 109 [none, some (vI a1), some (vI (z.1)), none, none, none] [] z.2)) rfl rfl ?_ ?_
    · rintro ⟨x2, x3, M4⟩
      show SW G (d + 8) YX12_rests Z 16 [some (vR 13 0), some (vI a1), some (vI x2), some (vI x3), none, none] [] M4 (b_X12_rests_1c F a1 x2 x3 M4) _
      unfold b_X12_rests_1c
      refine s_step (g_iload_n (iRow iCX12_rests_0 12 rfl) rfl rfl) ?_
      refine s_step (g_iconst (iRow iCX12_rests_0 13 rfl) kc_1) ?_
      refine s_step (g_aload_n (iRow iCX12_rests_0 14 rfl) rfl rfl) ?_
      refine s_step (g_getR (iRow iCX12_rests_0 15 rfl) f12_13 ko_13 (r_13_10 _ _)) ?_
      refine s_step (g_iconst (iRow iCX12_rests_0 16 rfl) kc_0) ?_
      refine s_gi (fun h => g_iald (iRow iCX12_rests_0 17 rfl) kn_64 ka_64 h) ?_
      refine s_step (g_ishl (iRow iCX12_rests_0 18 rfl)) ?_
      refine s_if (g_icmp_ge (tgt := 109) (iRow iCX12_rests_0 19 rfl) (by decide)) (fun _ => ?_) (fun _ => ?_)
      · refine s_step (g_keep [false, true, true, false, false, false] rfl) ?_
        exact s_end (fun h => h)
      · refine s_step (g_iconst (iRow iCX12_rests_0 20 rfl) kc_1) ?_
        refine s_step (g_istore (ls' := [some (vR 13 0), some (vI a1), some (vI x2), some (vI x3), some (vI (1 : Int32)), none]) (iRow iCX12_rests_0 21 rfl) (by decide) rfl) ?_
        refine s_step (g_iconst (iRow iCX12_rests_0 22 rfl) kc_0) ?_
        refine s_step (g_istore (ls' := [some (vR 13 0), some (vI a1), some (vI x2), some (vI x3), some (vI (1 : Int32)), some (vI (0 : Int32))]) (iRow iCX12_rests_0 23 rfl) (by decide) rfl) ?_
        refine s_lp (fun z => [some (vR 13 0), some (vI a1), some (vI x2), some (vI x3), some (vI (z.1)), some (vI (z.2.1))]) (fun z => z.2.2) (fun z => LM G (d + 8) YX12_rests Z 85 [some (vR 13 0), some (vI a1), some (vI x2), some (vI x3), some (vI (z.1)), none] [] z.2) rfl rfl ?_ ?_
        · rintro ⟨x5, x6, M7⟩
          show SW G (d + 8) YX12_rests Z 34 [some (vR 13 0), some (vI a1), some (vI x2), some (vI x3), some (vI x5), some (vI x6)] [] M7 (b_X12_rests_2c F x3 x5 x6 M7) _
          unfold b_X12_rests_2c
          refine s_step (g_iload (iRow iCX12_rests_1 0 rfl) rfl) ?_
          refine s_step (g_aload_n (iRow iCX12_rests_1 1 rfl) rfl rfl) ?_
          refine s_step (g_getR (iRow iCX12_rests_1 2 rfl) f12_13 ko_13 (r_13_10 _ _)) ?_
          refine s_step (g_iconst (iRow iCX12_rests_1 3 rfl) kc_0) ?_
          refine s_gi (fun h => g_iald (iRow iCX12_rests_1 4 rfl) kn_64 ka_64 h) ?_
          refine s_if (g_icmp_ge (tgt := 85) (iRow iCX12_rests_1 5 rfl) (by decide)) (fun _ => ?_) (fun _ => ?_)
          · refine s_step (g_keep [true, true, true, true, true, false] rfl) ?_
            exact s_end (fun h => h)
          · refine s_step (g_iload (iRow iCX12_rests_1 6 rfl) rfl) ?_
            refine s_if (g_if_eq (tgt := 85) (iRow iCX12_rests_1 7 rfl) (by decide)) (fun _ => ?_) (fun _ => ?_)
            · refine s_step (g_keep [true, true, true, true, true, false] rfl) ?_
              exact s_end (fun h => h)
            · refine s_step (g_aload_n (iRow iCX12_rests_1 8 rfl) rfl rfl) ?_
              refine s_step (g_iload (iRow iCX12_rests_1 9 rfl) rfl) ?_
              refine s_step (g_iload_n (iRow iCX12_rests_1 10 rfl) rfl rfl) ?_
              refine s_step (g_iconst (iRow iCX12_rests_1 11 rfl) kc_1) ?_
              refine s_step (g_iload (iRow iCX12_rests_1 12 rfl) rfl) ?_
              refine s_step (g_ishl (iRow iCX12_rests_1 13 rfl)) ?_
              refine s_step (g_ixor (iRow iCX12_rests_1 14 rfl)) ?_
              refine s_cl (sf := fun x => vI x :: []) (fun _ _ h => h_V (As := [_, _]) (iRow iCX12_rests_1 15 rfl) l12_491 iX12_hasBy ko_13 rfl rfl rfl rfl (t_X12_hasBy (d + 0) h) rfl (by omega) (by decide) (Nat.le_of_ble_eq_true rfl)) (fun x9 M8 => ?_)
              refine s_step (g_aload_n (iRow iCX12_rests_1 16 rfl) rfl rfl) ?_
              refine s_step (g_iload (iRow iCX12_rests_1 17 rfl) rfl) ?_
              refine s_step (g_iload_n (iRow iCX12_rests_1 18 rfl) rfl rfl) ?_
              refine s_cl (sf := fun x => vI x :: [vI x9]) (fun _ _ h => h_V (As := [_, _]) (iRow iCX12_rests_1 19 rfl) l12_491 iX12_hasBy ko_13 rfl rfl rfl rfl (t_X12_hasBy (d + 0) h) rfl (by omega) (by decide) (Nat.le_of_ble_eq_true rfl)) (fun x11 M10 => ?_)
              refine s_bd (fun z => LM G (d + 8) YX12_rests Z 77 [some (vR 13 0), some (vI a1), some (vI x2), some (vI x3), none, some (vI x6)] [vI z] M10) ?_ ?_
              · refine s_if (g_icmp_gt (tgt := 76) (iRow iCX12_rests_1 20 rfl) (by decide)) (fun _ => ?_) (fun _ => ?_)
                · refine s_step (g_iconst (iRow iCX12_rests_1 23 rfl) kc_0) ?_
                  refine s_step (g_keep [true, true, true, true, false, true] rfl) ?_
                  exact s_end (fun h => h)
                · refine s_step (g_iconst (iRow iCX12_rests_1 21 rfl) kc_1) ?_
                  refine s_step (g_goto (tgt := 77) (iRow iCX12_rests_1 22 rfl) (by decide)) ?_
                  refine s_step (g_keep [true, true, true, true, false, true] rfl) ?_
                  exact s_end (fun h => h)
              · rintro x12
                show SW G (d + 8) YX12_rests Z 77 [some (vR 13 0), some (vI a1), some (vI x2), some (vI x3), none, some (vI x6)] [vI x12] M10 _ _
                try dsimp only
                refine s_step (g_istore (ls' := [some (vR 13 0), some (vI a1), some (vI x2), some (vI x3), some (vI x12), some (vI x6)]) (iRow iCX12_rests_2 0 rfl) (by decide) rfl) ?_
                refine s_step (g_iincc (c := 1) (ls' := [some (vR 13 0), some (vI a1), some (vI x2), some (vI x3), some (vI x12), some (vI (x6 + (1 : Int32)))]) (iRow iCX12_rests_2 1 rfl) rfl kc_1 (by decide) rfl) ?_
                refine s_step (g_goto (tgt := 34) (iRow iCX12_rests_2 2 rfl) (by decide)) ?_
                exact s_end (fun h => h)
        · rintro ⟨x13, M14⟩
          show SW G (d + 8) YX12_rests Z 85 [some (vR 13 0), some (vI a1), some (vI x2), some (vI x3), some (vI x13), none] [] M14 _ _
          try dsimp only
          refine s_step (g_iload (iRow iCX12_rests_2 3 rfl) rfl) ?_
          refine s_nj 103 (fun z => [some (vR 13 0), some (vI a1), some (vI z), some (vI x3), none, none]) (fun z => []) (fun z => M14) ?_ (fun j103 hj103 => ?_)
          · rintro x15
            show SW G (d + 8) YX12_rests Z 103 [some (vR 13 0), some (vI a1), some (vI x15), some (vI x3), none, none] [] M14 _ _
            try dsimp only
            refine s_step (g_iincc (c := 1) (ls' := [some (vR 13 0), some (vI a1), some (vI x15), some (vI (x3 + (1 : Int32))), none, none]) (iRow iCX12_rests_2 12 rfl) rfl kc_1 (by decide) rfl) ?_
            refine s_step (g_goto (tgt := 16) (iRow iCX12_rests_2 13 rfl) (by decide)) ?_
            exact s_end (fun h => h)
          · refine s_ifn (g_if_ne (tgt := 93) (iRow iCX12_rests_2 4 rfl) (by decide)) (fun _ => ?_) (fun _ => ?_)
            · refine s_step (g_goto (tgt := 103) (iRow iCX12_rests_2 5 rfl) (by decide)) ?_
              refine s_step (g_keep [true, true, true, true, false, false] rfl) ?_
              exact hj103 _
            · refine s_step (g_iload_n (iRow iCX12_rests_2 6 rfl) rfl rfl) ?_
              refine s_step (g_iload_n (iRow iCX12_rests_2 7 rfl) rfl rfl) ?_
              refine s_ifn (g_icmp_ne (tgt := 100) (iRow iCX12_rests_2 8 rfl) (by decide)) (fun _ => ?_) (fun _ => ?_)
              · refine s_step (g_keep [false, false, false, true, false, false] rfl) ?_
                exact s_end (fun h => h)
              · refine s_step (g_iincc (c := 1) (ls' := [some (vR 13 0), some (vI a1), some (vI (x2 + (1 : Int32))), some (vI x3), some (vI x13), none]) (iRow iCX12_rests_2 11 rfl) rfl kc_1 (by decide) rfl) ?_
                refine s_step (g_keep [true, true, true, true, false, false] rfl) ?_
                exact hj103 _
    · intro z
      rcases z with z | z
      · obtain ⟨x16, M17⟩ := z
        show SW G (d + 8) YX12_rests Z 98 [none, none, none, some (vI x16), none, none] [] M17 _ _
        try dsimp only [Sum.elim]
        refine s_step (g_iload_n (iRow iCX12_rests_2 9 rfl) rfl rfl) ?_
        exact s_reti (iRow iCX12_rests_2 10 rfl) rfl
      · obtain ⟨x18, M19⟩ := z
        show SW G (d + 8) YX12_rests Z 109 [none, some (vI a1), some (vI x18), none, none, none] [] M19 _ _
        try dsimp only [Sum.elim]
        refine s_step (g_iload_n (iRow iCX12_rests_2 14 rfl) rfl rfl) ?_
        refine s_step (g_iconst (iRow iCX12_rests_2 15 rfl) kc_m1) ?_
        refine s_ifn (g_icmp_ne (tgt := 118) (iRow iCX12_rests_2 16 rfl) (by decide)) (fun _ => ?_) (fun _ => ?_)
        · refine s_step (g_iload_n (iRow iCX12_rests_2 17 rfl) rfl rfl) ?_
          refine s_step (g_goto (tgt := 119) (iRow iCX12_rests_2 18 rfl) (by decide)) ?_
          exact s_reti (iRow iCX12_rests_2 20 rfl) rfl
        · refine s_step (g_iconst (iRow iCX12_rests_2 19 rfl) kc_m1) ?_
          exact s_reti (iRow iCX12_rests_2 20 rfl) rfl
  · refine s_step (g_iconst (iRow iCX12_rests_0 6 rfl) kc_m1) ?_
    exact s_reti (iRow iCX12_rests_0 7 rfl) rfl
abbrev YX12_draws : mY := (RX12, "draws", cX12_draws, 2, (some .int), none)
set_option maxHeartbeats 400000 in
set_option maxRecDepth 20000 in
theorem t_X12_draws {G : mg} {F : Nat} {a1 : Int32} {M : mm} {x : Int32} {M' : mm} (d : Nat) (h : m_X12_draws F a1 M = some (x, M')) : CM G yX12_draws cX12_draws 2 (some .int) (d + 0) [vR 13 0, vI a1] M (some (vI x)) M' := by
  refine ct_i (ls := [some (vR 13 0), some (vI a1)]) rfl rfl (Nat.le_of_ble_eq_true rfl) (fun Z => ?_) h
  show SW G (d + 0) YX12_draws Z 0 [some (vR 13 0), some (vI a1)] [] M _ _
  unfold m_X12_draws
  refine s_step (g_aload_n (iRow iCX12_draws_0 0 rfl) rfl rfl) ?_
  refine s_step (g_aload_n (iRow iCX12_draws_0 1 rfl) rfl rfl) ?_
  refine s_step (g_getL (iRow iCX12_draws_0 2 rfl) f12_494 ko_13) ?_
  refine s_step (g_ldc2 (iRow iCX12_draws_0 3 rfl) k12_497) ?_
  refine s_step (g_lmul (iRow iCX12_draws_0 4 rfl)) ?_
  refine s_step (g_ldc2 (iRow iCX12_draws_0 5 rfl) k12_499) ?_
  refine s_step (g_ladd (iRow iCX12_draws_0 6 rfl)) ?_
  refine s_step (g_ldc2 (iRow iCX12_draws_0 7 rfl) k12_501) ?_
  refine s_step (g_lrem (iRow iCX12_draws_0 8 rfl) (by decide)) ?_
  refine s_step (g_putL (iRow iCX12_draws_0 9 rfl) f12_494 (Or.inl rfl) ko_13) ?_
  refine s_nmM (fun M1 => ?_)
  refine s_step (g_aload_n (iRow iCX12_draws_0 10 rfl) rfl rfl) ?_
  refine s_step (g_getL (iRow iCX12_draws_0 11 rfl) f12_494 ko_13) ?_
  refine s_step (g_ldc2 (iRow iCX12_draws_0 12 rfl) k12_503) ?_
  refine s_step (g_ldiv (iRow iCX12_draws_0 13 rfl) (by decide)) ?_
  refine s_step (g_iload_n (iRow iCX12_draws_0 14 rfl) rfl rfl) ?_
  refine s_step (g_i2l (iRow iCX12_draws_0 15 rfl)) ?_
  refine s_gq (fun h => g_lrem (iRow iCX12_draws_0 16 rfl) h) ?_
  refine s_step (g_l2i (iRow iCX12_draws_0 17 rfl)) ?_
  exact s_reti (iRow iCX12_draws_0 18 rfl) rfl
abbrev YX12_firstOf : mY := (RX12, "firstOf", cX12_firstOf, 2, (some .int), none)
set_option maxHeartbeats 400000 in
set_option maxRecDepth 20000 in
theorem t_X12_firstOf {G : mg} {F : Nat} {a1 : Int32} {M : mm} {x : Int32} {M' : mm} (d : Nat) (h : m_X12_firstOf F a1 M = some (x, M')) : CM G yX12_firstOf cX12_firstOf 2 (some .int) (d + 0) [vI a1] M (some (vI x)) M' := by
  refine ct_i (ls := [some (vI a1), none]) rfl rfl (Nat.le_of_ble_eq_true rfl) (fun Z => ?_) h
  show SW G (d + 0) YX12_firstOf Z 0 [some (vI a1), none] [] M _ _
  unfold m_X12_firstOf
  refine s_step (g_iconst (iRow iCX12_firstOf_0 0 rfl) kc_0) ?_
  refine s_step (g_istore_n (ls' := [some (vI a1), some (vI (0 : Int32))]) (iRow iCX12_firstOf_0 1 rfl) rfl (by decide) rfl) ?_
  refine s_lp (fun z => [some (vI a1), some (vI z)]) (fun _ => M) (Sum.elim (fun z => LM G (d + 0) YX12_firstOf Z 17 [none, some (vI z)] [] M) (fun z => LM G (d + 0) YX12_firstOf Z 25 [none, none] [] M)) rfl rfl ?_ ?_
  · rintro x1
    show SW G (d + 0) YX12_firstOf Z 2 [some (vI a1), some (vI x1)] [] M (b_X12_firstOf_1c F a1 x1) _
    unfold b_X12_firstOf_1c
    refine s_step (g_iload_n (iRow iCX12_firstOf_0 2 rfl) rfl rfl) ?_
    refine s_step (g_bipush (iRow iCX12_firstOf_0 3 rfl) kb_10) ?_
    refine s_if (g_icmp_ge (tgt := 25) (iRow iCX12_firstOf_0 4 rfl) (by decide)) (fun _ => ?_) (fun _ => ?_)
    · refine s_step (g_keep [false, false] rfl) ?_
      exact s_end (fun h => h)
    · refine s_step (g_iload_n (iRow iCX12_firstOf_0 5 rfl) rfl rfl) ?_
      refine s_step (g_iload_n (iRow iCX12_firstOf_0 6 rfl) rfl rfl) ?_
      refine s_step (g_ishr (iRow iCX12_firstOf_0 7 rfl)) ?_
      refine s_step (g_iconst (iRow iCX12_firstOf_0 8 rfl) kc_1) ?_
      refine s_step (g_iand (iRow iCX12_firstOf_0 9 rfl)) ?_
      refine s_step (g_iconst (iRow iCX12_firstOf_0 10 rfl) kc_1) ?_
      refine s_ifn (g_icmp_ne (tgt := 19) (iRow iCX12_firstOf_0 11 rfl) (by decide)) (fun _ => ?_) (fun _ => ?_)
      · refine s_step (g_keep [false, true] rfl) ?_
        exact s_end (fun h => h)
      · refine s_step (g_iincc (c := 1) (ls' := [some (vI a1), some (vI (x1 + (1 : Int32)))]) (iRow iCX12_firstOf_0 14 rfl) rfl kc_1 (by decide) rfl) ?_
        refine s_step (g_goto (tgt := 2) (iRow iCX12_firstOf_0 15 rfl) (by decide)) ?_
        exact s_end (fun h => h)
  · intro z
    rcases z with z | z
    · generalize z = x2
      show SW G (d + 0) YX12_firstOf Z 17 [none, some (vI x2)] [] M _ _
      try dsimp only [Sum.elim]
      refine s_step (g_iload_n (iRow iCX12_firstOf_0 12 rfl) rfl rfl) ?_
      exact s_reti (iRow iCX12_firstOf_0 13 rfl) rfl
    · obtain ⟨⟩ := z
      show SW G (d + 0) YX12_firstOf Z 25 [none, none] [] M _ _
      try dsimp only [Sum.elim]
      refine s_step (g_iconst (iRow iCX12_firstOf_0 16 rfl) kc_m1) ?_
      exact s_reti (iRow iCX12_firstOf_0 17 rfl) rfl
abbrev YX12_livesOne : mY := (RX12, "livesOne", cX12_livesOne, 4, none, none)
set_option maxHeartbeats 400000 in
set_option maxRecDepth 20000 in
theorem t_X12_livesOne {G : mg} {F : Nat} {a1 : Int32} {M : mm} {M' : mm} (d : Nat) (h : m_X12_livesOne F a1 M = some M') : CM G yX12_livesOne cX12_livesOne 4 none (d + 7) [vR 13 0, vI a1] M none M' := by
  refine ct_v (ls := [some (vR 13 0), some (vI a1), none, none]) rfl rfl (Nat.le_of_ble_eq_true rfl) (fun Z => ?_) h
  show SW G (d + 7) YX12_livesOne Z 0 [some (vR 13 0), some (vI a1), none, none] [] M _ _
  unfold m_X12_livesOne
  refine s_step (g_aload_n (iRow iCX12_livesOne_0 0 rfl) rfl rfl) ?_
  refine s_step (g_bipush (iRow iCX12_livesOne_0 1 rfl) kb_10) ?_
  refine s_cl (sf := fun x => vI x :: []) (fun _ _ h => h_V (As := [_]) (iRow iCX12_livesOne_0 2 rfl) l12_505 iX12_draws ko_13 rfl rfl rfl rfl (t_X12_draws (d + 6) h) rfl (by omega) (by decide) (Nat.le_of_ble_eq_true rfl)) (fun x2 M1 => ?_)
  refine s_step (g_istore_n (ls' := [some (vR 13 0), some (vI a1), some (vI x2), none]) (iRow iCX12_livesOne_0 3 rfl) rfl (by decide) rfl) ?_
  refine s_step (g_iload_n (iRow iCX12_livesOne_0 4 rfl) rfl rfl) ?_
  refine s_step (g_aload_n (iRow iCX12_livesOne_0 5 rfl) rfl rfl) ?_
  refine s_step (g_getR (iRow iCX12_livesOne_0 6 rfl) f12_26 ko_13 (r_13_14 _ _)) ?_
  refine s_step (g_iload_n (iRow iCX12_livesOne_0 7 rfl) rfl rfl) ?_
  refine s_gi (fun h => g_iald (iRow iCX12_livesOne_0 8 rfl) kn_68 ka_68 h) ?_
  refine s_if (g_icmp_lt (tgt := 77) (iRow iCX12_livesOne_0 9 rfl) (by decide)) (fun _ => ?_) (fun _ => ?_)
  · refine s_step (g_iload_n (iRow iCX12_livesOne_1 22 rfl) rfl rfl) ?_
    refine s_ifn (g_if_ne (tgt := 123) (iRow iCX12_livesOne_1 23 rfl) (by decide)) (fun _ => ?_) (fun _ => ?_)
    · refine s_step (g_aload_n (iRow iCX12_livesOne_2 0 rfl) rfl rfl) ?_
      refine s_step (g_iload_n (iRow iCX12_livesOne_2 1 rfl) rfl rfl) ?_
      refine s_cl (sf := fun x => vI x :: []) (fun _ _ h => h_V (As := [_]) (iRow iCX12_livesOne_2 2 rfl) l12_393 iX12_oathsOf ko_13 rfl rfl rfl rfl (t_X12_oathsOf (d + 6) h) rfl (by omega) (by decide) (Nat.le_of_ble_eq_true rfl)) (fun x4 M3 => ?_)
      refine s_step (g_aload_n (iRow iCX12_livesOne_2 3 rfl) rfl rfl) ?_
      refine s_step (g_getR (iRow iCX12_livesOne_2 4 rfl) f12_123 ko_13 (r_13_49 _ _)) ?_
      refine s_step (g_iconst (iRow iCX12_livesOne_2 5 rfl) kc_1) ?_
      refine s_gi (fun h => g_iald (iRow iCX12_livesOne_2 6 rfl) kn_100 ka_100 h) ?_
      refine s_step (g_iand (iRow iCX12_livesOne_2 7 rfl)) ?_
      refine s_cl (sf := fun x => vI x :: []) (fun _ _ h => h_S (As := [_]) (iRow iCX12_livesOne_2 8 rfl) l12_508 iX12_firstOf rfl rfl (t_X12_firstOf (d + 6) h) rfl (by omega) (by decide) (Nat.le_of_ble_eq_true rfl)) (fun x6 M5 => ?_)
      refine s_step (g_istore_n (ls' := [some (vR 13 0), some (vI a1), some (vI x2), some (vI x6)]) (iRow iCX12_livesOne_2 9 rfl) rfl (by decide) rfl) ?_
      refine s_step (g_iload_n (iRow iCX12_livesOne_2 10 rfl) rfl rfl) ?_
      refine s_if (g_if_ge (tgt := 102) (iRow iCX12_livesOne_2 11 rfl) (by decide)) (fun _ => ?_) (fun _ => ?_)
      · refine s_step (g_aload_n (iRow iCX12_livesOne_2 13 rfl) rfl rfl) ?_
        refine s_step (g_iload_n (iRow iCX12_livesOne_2 14 rfl) rfl rfl) ?_
        refine s_cv (stA := []) (fun _ h => h_V (As := [_]) (iRow iCX12_livesOne_2 15 rfl) l12_438 iX12_forgives ko_13 rfl rfl rfl rfl (t_X12_forgives (d + 6) h) rfl (by omega) (by decide) (Nat.le_of_ble_eq_true rfl)) (fun M7 => ?_)
        refine s_step (g_aload_n (iRow iCX12_livesOne_2 16 rfl) rfl rfl) ?_
        refine s_step (g_dup (iRow iCX12_livesOne_2 17 rfl) rfl) ?_
        refine s_step (g_getI (iRow iCX12_livesOne_2 18 rfl) f12_514 ko_13) ?_
        refine s_step (g_aload_n (iRow iCX12_livesOne_2 19 rfl) rfl rfl) ?_
        refine s_cl (sf := fun x => vI x :: [vI (M7.1 13 0 64), vR 13 0]) (fun _ _ h => h_V (As := []) (iRow iCX12_livesOne_2 20 rfl) l12_371 iX12_falls ko_13 rfl rfl rfl rfl (t_X12_falls (d + 0) h) rfl (by omega) (by decide) (Nat.le_of_ble_eq_true rfl)) (fun x9 M8 => ?_)
        refine s_cl (sf := fun x => vI x :: [vI (M7.1 13 0 64), vR 13 0]) (fun _ _ h => h_S (As := [_]) (iRow iCX12_livesOne_2 21 rfl) l12_470 iX12_bits rfl rfl (t_X12_bits (d + 6) h) rfl (by omega) (by decide) (Nat.le_of_ble_eq_true rfl)) (fun x11 M10 => ?_)
        refine s_step (g_iadd (iRow iCX12_livesOne_2 22 rfl)) ?_
        refine s_step (g_putI (iRow iCX12_livesOne_2 23 rfl) f12_514 (Or.inl rfl) ko_13) ?_
        refine s_nmM (fun M12 => ?_)
        exact s_retv (iRow iCX12_livesOne_3 0 rfl) rfl
      · exact s_retv (iRow iCX12_livesOne_2 12 rfl) rfl
    · exact s_retv (iRow iCX12_livesOne_3 0 rfl) rfl
  · refine s_step (g_aload_n (iRow iCX12_livesOne_0 10 rfl) rfl rfl) ?_
    refine s_step (g_iload_n (iRow iCX12_livesOne_0 11 rfl) rfl rfl) ?_
    refine s_cl (sf := fun x => vI x :: []) (fun _ _ h => h_V (As := [_]) (iRow iCX12_livesOne_0 12 rfl) l12_393 iX12_oathsOf ko_13 rfl rfl rfl rfl (t_X12_oathsOf (d + 6) h) rfl (by omega) (by decide) (Nat.le_of_ble_eq_true rfl)) (fun x14 M13 => ?_)
    refine s_step (g_aload_n (iRow iCX12_livesOne_0 13 rfl) rfl rfl) ?_
    refine s_cl (sf := fun x => vI x :: [vI x14]) (fun _ _ h => h_V (As := []) (iRow iCX12_livesOne_0 14 rfl) l12_461 iX12_loose ko_13 rfl rfl rfl rfl (t_X12_loose (d + 5) h) rfl (by omega) (by decide) (Nat.le_of_ble_eq_true rfl)) (fun x16 M15 => ?_)
    refine s_step (g_iand (iRow iCX12_livesOne_0 15 rfl)) ?_
    refine s_cl (sf := fun x => vI x :: []) (fun _ _ h => h_S (As := [_]) (iRow iCX12_livesOne_0 16 rfl) l12_508 iX12_firstOf rfl rfl (t_X12_firstOf (d + 6) h) rfl (by omega) (by decide) (Nat.le_of_ble_eq_true rfl)) (fun x18 M17 => ?_)
    refine s_step (g_istore_n (ls' := [some (vR 13 0), some (vI a1), some (vI x2), some (vI x18)]) (iRow iCX12_livesOne_0 17 rfl) rfl (by decide) rfl) ?_
    refine s_step (g_iload_n (iRow iCX12_livesOne_0 18 rfl) rfl rfl) ?_
    refine s_if (g_if_ge (tgt := 36) (iRow iCX12_livesOne_0 19 rfl) (by decide)) (fun _ => ?_) (fun _ => ?_)
    · refine s_step (g_aload_n (iRow iCX12_livesOne_0 21 rfl) rfl rfl) ?_
      refine s_step (g_getR (iRow iCX12_livesOne_0 22 rfl) f12_123 ko_13 (r_13_49 _ _)) ?_
      refine s_step (g_iconst (iRow iCX12_livesOne_0 23 rfl) kc_1) ?_
      refine s_step (g_dup2 (iRow iCX12_livesOne_1 0 rfl) rfl rfl) ?_
      refine s_gi (fun h => g_iald (iRow iCX12_livesOne_1 1 rfl) kn_100 ka_100 h) ?_
      refine s_step (g_iconst (iRow iCX12_livesOne_1 2 rfl) kc_1) ?_
      refine s_step (g_iload_n (iRow iCX12_livesOne_1 3 rfl) rfl rfl) ?_
      refine s_step (g_ishl (iRow iCX12_livesOne_1 4 rfl)) ?_
      refine s_step (g_ior (iRow iCX12_livesOne_1 5 rfl)) ?_
      refine s_gi (fun h => g_iast (iRow iCX12_livesOne_1 6 rfl) kn_100 ka_100 h) ?_
      refine s_nmM (fun M19 => ?_)
      refine s_step (g_aload_n (iRow iCX12_livesOne_1 7 rfl) rfl rfl) ?_
      refine s_step (g_dup (iRow iCX12_livesOne_1 8 rfl) rfl) ?_
      refine s_step (g_getI (iRow iCX12_livesOne_1 9 rfl) f12_511 ko_13) ?_
      refine s_step (g_iconst (iRow iCX12_livesOne_1 10 rfl) kc_1) ?_
      refine s_step (g_iadd (iRow iCX12_livesOne_1 11 rfl)) ?_
      refine s_step (g_putI (iRow iCX12_livesOne_1 12 rfl) f12_511 (Or.inl rfl) ko_13) ?_
      refine s_nmM (fun M20 => ?_)
      refine s_step (g_aload_n (iRow iCX12_livesOne_1 13 rfl) rfl rfl) ?_
      refine s_step (g_dup (iRow iCX12_livesOne_1 14 rfl) rfl) ?_
      refine s_step (g_getI (iRow iCX12_livesOne_1 15 rfl) f12_514 ko_13) ?_
      refine s_step (g_aload_n (iRow iCX12_livesOne_1 16 rfl) rfl rfl) ?_
      refine s_cl (sf := fun x => vI x :: [vI (M20.1 13 0 64), vR 13 0]) (fun _ _ h => h_V (As := []) (iRow iCX12_livesOne_1 17 rfl) l12_371 iX12_falls ko_13 rfl rfl rfl rfl (t_X12_falls (d + 0) h) rfl (by omega) (by decide) (Nat.le_of_ble_eq_true rfl)) (fun x22 M21 => ?_)
      refine s_cl (sf := fun x => vI x :: [vI (M20.1 13 0 64), vR 13 0]) (fun _ _ h => h_S (As := [_]) (iRow iCX12_livesOne_1 18 rfl) l12_470 iX12_bits rfl rfl (t_X12_bits (d + 6) h) rfl (by omega) (by decide) (Nat.le_of_ble_eq_true rfl)) (fun x24 M23 => ?_)
      refine s_step (g_iadd (iRow iCX12_livesOne_1 19 rfl)) ?_
      refine s_step (g_putI (iRow iCX12_livesOne_1 20 rfl) f12_514 (Or.inl rfl) ko_13) ?_
      refine s_nmM (fun M25 => ?_)
      refine s_step (g_goto (tgt := 123) (iRow iCX12_livesOne_1 21 rfl) (by decide)) ?_
      exact s_retv (iRow iCX12_livesOne_3 0 rfl) rfl
    · exact s_retv (iRow iCX12_livesOne_0 20 rfl) rfl
abbrev YX12_centuries : mY := (RX12, "centuries", cX12_centuries, 6, (some .int), none)
set_option maxHeartbeats 400000 in
set_option maxRecDepth 20000 in
theorem t_X12_centuries {G : mg} {F : Nat} {a1 : Int32} {a2 : Int32} {a3 : Int32} {M : mm} {x : Int32} {M' : mm} (d : Nat) (h : m_X12_centuries F a1 a2 a3 M = some (x, M')) : CM G yX12_centuries cX12_centuries 6 (some .int) (d + 8) [vR 13 0, vI a1, vI a2, vI a3] M (some (vI x)) M' := by
  refine ct_i (ls := [some (vR 13 0), some (vI a1), some (vI a2), some (vI a3), none, none]) rfl rfl (Nat.le_of_ble_eq_true rfl) (fun Z => ?_) h
  show SW G (d + 8) YX12_centuries Z 0 [some (vR 13 0), some (vI a1), some (vI a2), some (vI a3), none, none] [] M _ _
  unfold m_X12_centuries
  refine s_step (g_aload_n (iRow iCX12_centuries_0 0 rfl) rfl rfl) ?_
  refine s_step (g_iconst (iRow iCX12_centuries_0 1 rfl) kc_0) ?_
  refine s_step (g_putI (iRow iCX12_centuries_0 2 rfl) f12_157 (Or.inl rfl) ko_13) ?_
  refine s_nmM (fun M1 => ?_)
  refine s_step (g_iload_n (iRow iCX12_centuries_0 3 rfl) rfl rfl) ?_
  refine s_step (g_iconst (iRow iCX12_centuries_0 4 rfl) kc_0) ?_
  refine s_step (g_sipush (iRow iCX12_centuries_0 5 rfl) ks_9999) ?_
  refine s_cb (sf := fun b => vI (bI b) :: []) (fun _ _ h => h_S (As := [_, _, _]) (iRow iCX12_centuries_0 6 rfl) l12_291 iX12_within rfl rfl (t_X12_within (d + 7) h) rfl (by omega) (by decide) (Nat.le_of_ble_eq_true rfl)) (fun b3 M2 => ?_)
  refine s_ifeqb (g_if_eq (tgt := 35) (iRow iCX12_centuries_0 7 rfl) (by decide)) (fun _ => ?_) (fun _ => ?_)
  · refine s_step (g_iload_n (iRow iCX12_centuries_0 8 rfl) rfl rfl) ?_
    refine s_step (g_iconst (iRow iCX12_centuries_0 9 rfl) kc_1) ?_
    refine s_step (g_bipush (iRow iCX12_centuries_0 10 rfl) kb_100) ?_
    refine s_cb (sf := fun b => vI (bI b) :: []) (fun _ _ h => h_S (As := [_, _, _]) (iRow iCX12_centuries_0 11 rfl) l12_291 iX12_within rfl rfl (t_X12_within (d + 7) h) rfl (by omega) (by decide) (Nat.le_of_ble_eq_true rfl)) (fun b5 M4 => ?_)
    refine s_ifeqb (g_if_eq (tgt := 35) (iRow iCX12_centuries_0 12 rfl) (by decide)) (fun _ => ?_) (fun _ => ?_)
    · refine s_step (g_iload_n (iRow iCX12_centuries_0 13 rfl) rfl rfl) ?_
      refine s_step (g_iconst (iRow iCX12_centuries_0 14 rfl) kc_0) ?_
      refine s_step (g_iconst (iRow iCX12_centuries_0 15 rfl) kc_2) ?_
      refine s_cb (sf := fun b => vI (bI b) :: []) (fun _ _ h => h_S (As := [_, _, _]) (iRow iCX12_centuries_0 16 rfl) l12_291 iX12_within rfl rfl (t_X12_within (d + 7) h) rfl (by omega) (by decide) (Nat.le_of_ble_eq_true rfl)) (fun b7 M6 => ?_)
      refine s_ifneb (g_if_ne (tgt := 37) (iRow iCX12_centuries_0 17 rfl) (by decide)) (fun _ => ?_) (fun _ => ?_)
      · refine s_step (g_aload_n (iRow iCX12_centuries_0 20 rfl) rfl rfl) ?_
        refine s_step (g_iload_n (iRow iCX12_centuries_0 21 rfl) rfl rfl) ?_
        refine s_step (g_i2l (iRow iCX12_centuries_0 22 rfl)) ?_
        refine s_step (g_putL (iRow iCX12_centuries_0 23 rfl) f12_494 (Or.inl rfl) ko_13) ?_
        refine s_nmM (fun M8 => ?_)
        refine s_step (g_aload_n (iRow iCX12_centuries_1 0 rfl) rfl rfl) ?_
        refine s_step (g_getR (iRow iCX12_centuries_1 1 rfl) f12_123 ko_13 (r_13_49 _ _)) ?_
        refine s_step (g_iconst (iRow iCX12_centuries_1 2 rfl) kc_0) ?_
        refine s_step (g_aload_n (iRow iCX12_centuries_1 3 rfl) rfl rfl) ?_
        refine s_step (g_getR (iRow iCX12_centuries_1 4 rfl) f12_126 ko_13 (r_13_50 _ _)) ?_
        refine s_step (g_iconst (iRow iCX12_centuries_1 5 rfl) kc_4) ?_
        refine s_cv (stA := []) (fun _ h => h_S (As := [_, _, _, _]) (iRow iCX12_centuries_1 6 rfl) l12_428 iX12_copies rfl rfl (t_X12_copies_100_101 (d + 7) h) rfl (by omega) (by decide) (Nat.le_of_ble_eq_true rfl)) (fun M9 => ?_)
        refine s_step (g_aload_n (iRow iCX12_centuries_1 7 rfl) rfl rfl) ?_
        refine s_step (g_iconst (iRow iCX12_centuries_1 8 rfl) kc_0) ?_
        refine s_step (g_putI (iRow iCX12_centuries_1 9 rfl) f12_511 (Or.inl rfl) ko_13) ?_
        refine s_nmM (fun M10 => ?_)
        refine s_step (g_aload_n (iRow iCX12_centuries_1 10 rfl) rfl rfl) ?_
        refine s_step (g_iconst (iRow iCX12_centuries_1 11 rfl) kc_0) ?_
        refine s_step (g_putI (iRow iCX12_centuries_1 12 rfl) f12_514 (Or.inl rfl) ko_13) ?_
        refine s_nmM (fun M11 => ?_)
        refine s_step (g_iconst (iRow iCX12_centuries_1 13 rfl) kc_0) ?_
        refine s_step (g_istore (ls' := [some (vR 13 0), some (vI a1), some (vI a2), some (vI a3), some (vI (0 : Int32)), none]) (iRow iCX12_centuries_1 14 rfl) (by decide) rfl) ?_
        refine s_step (g_keep [true, false, true, true, true, false] rfl) ?_
        refine s_lp (fun z => [some (vR 13 0), none, some (vI a2), some (vI a3), some (vI (z.1)), none]) (fun z => z.2) (fun z => LM G (d + 8) YX12_centuries Z 127 [some (vR 13 0), none, none, some (vI a3), none, none] [] z) rfl rfl ?_ ?_
        · rintro ⟨x12, M13⟩
          show SW G (d + 8) YX12_centuries Z 69 [some (vR 13 0), none, some (vI a2), some (vI a3), some (vI x12), none] [] M13 (b_X12_centuries_1c F a2 x12 M13) _
          unfold b_X12_centuries_1c
          refine s_step (g_iload (iRow iCX12_centuries_1 15 rfl) rfl) ?_
          refine s_step (g_iload_n (iRow iCX12_centuries_1 16 rfl) rfl rfl) ?_
          refine s_if (g_icmp_ge (tgt := 127) (iRow iCX12_centuries_1 17 rfl) (by decide)) (fun _ => ?_) (fun _ => ?_)
          · refine s_step (g_keep [true, false, false, true, false, false] rfl) ?_
            exact s_end (fun h => h)
          · refine s_step (g_iconst (iRow iCX12_centuries_1 18 rfl) kc_0) ?_
            refine s_step (g_istore (ls' := [some (vR 13 0), none, some (vI a2), some (vI a3), some (vI x12), some (vI (0 : Int32))]) (iRow iCX12_centuries_1 19 rfl) (by decide) rfl) ?_
            refine s_lp (fun z => [some (vR 13 0), none, some (vI a2), some (vI a3), some (vI x12), some (vI (z.1))]) (fun z => z.2) (fun z => LM G (d + 8) YX12_centuries Z 101 [some (vR 13 0), none, some (vI a2), some (vI a3), some (vI x12), none] [] z) rfl rfl ?_ ?_
            · rintro ⟨x14, M15⟩
              show SW G (d + 8) YX12_centuries Z 78 [some (vR 13 0), none, some (vI a2), some (vI a3), some (vI x12), some (vI x14)] [] M15 (b_X12_centuries_2c F x14 M15) _
              unfold b_X12_centuries_2c
              refine s_step (g_iload (iRow iCX12_centuries_1 20 rfl) rfl) ?_
              refine s_step (g_aload_n (iRow iCX12_centuries_1 21 rfl) rfl rfl) ?_
              refine s_step (g_getR (iRow iCX12_centuries_1 22 rfl) f12_13 ko_13 (r_13_10 _ _)) ?_
              refine s_step (g_iconst (iRow iCX12_centuries_1 23 rfl) kc_0) ?_
              refine s_gi (fun h => g_iald (iRow iCX12_centuries_2 0 rfl) kn_64 ka_64 h) ?_
              refine s_if (g_icmp_ge (tgt := 101) (iRow iCX12_centuries_2 1 rfl) (by decide)) (fun _ => ?_) (fun _ => ?_)
              · refine s_step (g_keep [true, false, true, true, true, false] rfl) ?_
                exact s_end (fun h => h)
              · refine s_step (g_aload_n (iRow iCX12_centuries_2 2 rfl) rfl rfl) ?_
                refine s_step (g_iload (iRow iCX12_centuries_2 3 rfl) rfl) ?_
                refine s_cv (stA := []) (fun _ h => h_V (As := [_]) (iRow iCX12_centuries_2 4 rfl) l12_517 iX12_livesOne ko_13 rfl rfl rfl rfl (t_X12_livesOne (d + 0) h) rfl (by omega) (by decide) (Nat.le_of_ble_eq_true rfl)) (fun M16 => ?_)
                refine s_step (g_iincc (c := 1) (ls' := [some (vR 13 0), none, some (vI a2), some (vI a3), some (vI x12), some (vI (x14 + (1 : Int32)))]) (iRow iCX12_centuries_2 5 rfl) rfl kc_1 (by decide) rfl) ?_
                refine s_step (g_goto (tgt := 78) (iRow iCX12_centuries_2 6 rfl) (by decide)) ?_
                exact s_end (fun h => h)
            · rintro M17
              show SW G (d + 8) YX12_centuries Z 101 [some (vR 13 0), none, some (vI a2), some (vI a3), some (vI x12), none] [] M17 _ _
              try dsimp only
              refine s_step (g_aload_n (iRow iCX12_centuries_2 7 rfl) rfl rfl) ?_
              refine s_step (g_dup (iRow iCX12_centuries_2 8 rfl) rfl) ?_
              refine s_step (g_getI (iRow iCX12_centuries_2 9 rfl) f12_514 ko_13) ?_
              refine s_step (g_aload_n (iRow iCX12_centuries_2 10 rfl) rfl rfl) ?_
              refine s_cl (sf := fun x => vI x :: [vI (M17.1 13 0 64), vR 13 0]) (fun _ _ h => h_V (As := []) (iRow iCX12_centuries_2 11 rfl) l12_444 iX12_passes ko_13 rfl rfl rfl rfl (t_X12_passes (d + 0) h) rfl (by omega) (by decide) (Nat.le_of_ble_eq_true rfl)) (fun x19 M18 => ?_)
              refine s_cl (sf := fun x => vI x :: [vI (M17.1 13 0 64), vR 13 0]) (fun _ _ h => h_S (As := [_]) (iRow iCX12_centuries_2 12 rfl) l12_470 iX12_bits rfl rfl (t_X12_bits (d + 7) h) rfl (by omega) (by decide) (Nat.le_of_ble_eq_true rfl)) (fun x21 M20 => ?_)
              refine s_step (g_iadd (iRow iCX12_centuries_2 13 rfl)) ?_
              refine s_step (g_putI (iRow iCX12_centuries_2 14 rfl) f12_514 (Or.inl rfl) ko_13) ?_
              refine s_nmM (fun M22 => ?_)
              refine s_step (g_aload_n (iRow iCX12_centuries_2 15 rfl) rfl rfl) ?_
              refine s_cv (stA := []) (fun _ h => h_V (As := []) (iRow iCX12_centuries_2 16 rfl) l12_482 iX12_raisesAll ko_13 rfl rfl rfl rfl (t_X12_raisesAll (d + 1) h) rfl (by omega) (by decide) (Nat.le_of_ble_eq_true rfl)) (fun M23 => ?_)
              refine s_step (g_iincc (c := 1) (ls' := [some (vR 13 0), none, some (vI a2), some (vI a3), some (vI (x12 + (1 : Int32))), none]) (iRow iCX12_centuries_2 17 rfl) rfl kc_1 (by decide) rfl) ?_
              refine s_step (g_goto (tgt := 69) (iRow iCX12_centuries_2 18 rfl) (by decide)) ?_
              exact s_end (fun h => h)
        · rintro M24
          show SW G (d + 8) YX12_centuries Z 127 [some (vR 13 0), none, none, some (vI a3), none, none] [] M24 _ _
          try dsimp only
          refine s_step (g_aload_n (iRow iCX12_centuries_2 19 rfl) rfl rfl) ?_
          refine s_step (g_getR (iRow iCX12_centuries_2 20 rfl) f12_123 ko_13 (r_13_49 _ _)) ?_
          refine s_step (g_iconst (iRow iCX12_centuries_2 21 rfl) kc_3) ?_
          refine s_gi (fun h => g_iald (iRow iCX12_centuries_2 22 rfl) kn_100 ka_100 h) ?_
          refine s_nmI (fun x25 => ?_)
          refine s_step (g_istore (ls' := [some (vR 13 0), none, none, some (vI a3), some (vI x25), none]) (iRow iCX12_centuries_2 23 rfl) (by decide) rfl) ?_
          refine s_step (g_aload_n (iRow iCX12_centuries_3 0 rfl) rfl rfl) ?_
          refine s_step (g_getR (iRow iCX12_centuries_3 1 rfl) f12_126 ko_13 (r_13_50 _ _)) ?_
          refine s_step (g_iconst (iRow iCX12_centuries_3 2 rfl) kc_4) ?_
          refine s_step (g_aload_n (iRow iCX12_centuries_3 3 rfl) rfl rfl) ?_
          refine s_step (g_getR (iRow iCX12_centuries_3 4 rfl) f12_123 ko_13 (r_13_49 _ _)) ?_
          refine s_step (g_iconst (iRow iCX12_centuries_3 5 rfl) kc_0) ?_
          refine s_cv (stA := []) (fun _ h => h_S (As := [_, _, _, _]) (iRow iCX12_centuries_3 6 rfl) l12_428 iX12_copies rfl rfl (t_X12_copies_101_100 (d + 7) h) rfl (by omega) (by decide) (Nat.le_of_ble_eq_true rfl)) (fun M26 => ?_)
          refine s_step (g_iload_n (iRow iCX12_centuries_3 7 rfl) rfl rfl) ?_
          refine s_ifn (g_if_ne (tgt := 159) (iRow iCX12_centuries_3 8 rfl) (by decide)) (fun _ => ?_) (fun _ => ?_)
          · refine s_step (g_aload_n (iRow iCX12_centuries_3 9 rfl) rfl rfl) ?_
            refine s_step (g_getI (iRow iCX12_centuries_3 10 rfl) f12_511 ko_13) ?_
            refine s_step (g_goto (tgt := 173) (iRow iCX12_centuries_3 11 rfl) (by decide)) ?_
            exact s_reti (iRow iCX12_centuries_3 19 rfl) rfl
          · refine s_step (g_iload_n (iRow iCX12_centuries_3 12 rfl) rfl rfl) ?_
            refine s_step (g_iconst (iRow iCX12_centuries_3 13 rfl) kc_1) ?_
            refine s_ifn (g_icmp_ne (tgt := 171) (iRow iCX12_centuries_3 14 rfl) (by decide)) (fun _ => ?_) (fun _ => ?_)
            · refine s_step (g_aload_n (iRow iCX12_centuries_3 15 rfl) rfl rfl) ?_
              refine s_step (g_getI (iRow iCX12_centuries_3 16 rfl) f12_514 ko_13) ?_
              refine s_step (g_goto (tgt := 173) (iRow iCX12_centuries_3 17 rfl) (by decide)) ?_
              exact s_reti (iRow iCX12_centuries_3 19 rfl) rfl
            · refine s_step (g_iload (iRow iCX12_centuries_3 18 rfl) rfl) ?_
              exact s_reti (iRow iCX12_centuries_3 19 rfl) rfl
      · refine s_step (g_iconst (iRow iCX12_centuries_0 18 rfl) kc_m1) ?_
        exact s_reti (iRow iCX12_centuries_0 19 rfl) rfl
    · refine s_step (g_iconst (iRow iCX12_centuries_0 18 rfl) kc_m1) ?_
      exact s_reti (iRow iCX12_centuries_0 19 rfl) rfl
  · refine s_step (g_iconst (iRow iCX12_centuries_0 18 rfl) kc_m1) ?_
    exact s_reti (iRow iCX12_centuries_0 19 rfl) rfl
abbrev YX12_copies_100_102 : mY := (RX12, "copies", cX12_copies, 5, none, none)
set_option maxHeartbeats 400000 in
set_option maxRecDepth 20000 in
theorem t_X12_copies_100_102 {G : mg} {F : Nat} {a2 : Int32} {a4 : Int32} {M : mm} {M' : mm} (d : Nat) (h : m_X12_copies_100_102 F a2 a4 M = some M') : CM G yX12_copies cX12_copies 5 none (d + 0) [vR 100 0, vI a2, vR 102 0, vI a4] M none M' := by
  refine ct_v (ls := [some (vR 100 0), some (vI a2), some (vR 102 0), some (vI a4), none]) rfl rfl (Nat.le_of_ble_eq_true rfl) (fun Z => ?_) h
  show SW G (d + 0) YX12_copies_100_102 Z 0 [some (vR 100 0), some (vI a2), some (vR 102 0), some (vI a4), none] [] M _ _
  unfold m_X12_copies_100_102
  refine s_step (g_iconst (iRow iCX12_copies_0 0 rfl) kc_0) ?_
  refine s_step (g_istore (ls' := [some (vR 100 0), some (vI a2), some (vR 102 0), some (vI a4), some (vI (0 : Int32))]) (iRow iCX12_copies_0 1 rfl) (by decide) rfl) ?_
  refine s_lp (fun z => [some (vR 100 0), some (vI a2), some (vR 102 0), some (vI a4), some (vI (z.1))]) (fun z => z.2) (fun z => LM G (d + 0) YX12_copies_100_102 Z 27 [none, none, none, none, none] [] z) rfl rfl ?_ ?_
  · rintro ⟨x1, M2⟩
    show SW G (d + 0) YX12_copies_100_102 Z 3 [some (vR 100 0), some (vI a2), some (vR 102 0), some (vI a4), some (vI x1)] [] M2 (b_X12_copies_100_102_1c F a2 a4 x1 M2) _
    unfold b_X12_copies_100_102_1c
    refine s_step (g_iload (iRow iCX12_copies_0 2 rfl) rfl) ?_
    refine s_step (g_iconst (iRow iCX12_copies_0 3 rfl) kc_4) ?_
    refine s_if (g_icmp_ge (tgt := 27) (iRow iCX12_copies_0 4 rfl) (by decide)) (fun _ => ?_) (fun _ => ?_)
    · refine s_step (g_keep [false, false, false, false, false] rfl) ?_
      exact s_end (fun h => h)
    · refine s_step (g_aload_n (iRow iCX12_copies_0 5 rfl) rfl rfl) ?_
      refine s_step (g_iload_n (iRow iCX12_copies_0 6 rfl) rfl rfl) ?_
      refine s_step (g_iload (iRow iCX12_copies_0 7 rfl) rfl) ?_
      refine s_step (g_iadd (iRow iCX12_copies_0 8 rfl)) ?_
      refine s_step (g_aload_n (iRow iCX12_copies_0 9 rfl) rfl rfl) ?_
      refine s_step (g_iload_n (iRow iCX12_copies_0 10 rfl) rfl rfl) ?_
      refine s_step (g_iload (iRow iCX12_copies_0 11 rfl) rfl) ?_
      refine s_step (g_iadd (iRow iCX12_copies_0 12 rfl)) ?_
      refine s_gi (fun h => g_iald (iRow iCX12_copies_0 13 rfl) kn_100 ka_100 h) ?_
      refine s_gi (fun h => g_iast (iRow iCX12_copies_0 14 rfl) kn_102 ka_102 h) ?_
      refine s_nmM (fun M3 => ?_)
      refine s_step (g_iincc (c := 1) (ls' := [some (vR 100 0), some (vI a2), some (vR 102 0), some (vI a4), some (vI (x1 + (1 : Int32)))]) (iRow iCX12_copies_0 15 rfl) rfl kc_1 (by decide) rfl) ?_
      refine s_step (g_goto (tgt := 3) (iRow iCX12_copies_0 16 rfl) (by decide)) ?_
      exact s_end (fun h => h)
  · rintro M4
    show SW G (d + 0) YX12_copies_100_102 Z 27 [none, none, none, none, none] [] M4 _ _
    try dsimp only
    exact s_retv (iRow iCX12_copies_0 17 rfl) rfl
abbrev YX12_copies_102_100 : mY := (RX12, "copies", cX12_copies, 5, none, none)
set_option maxHeartbeats 400000 in
set_option maxRecDepth 20000 in
theorem t_X12_copies_102_100 {G : mg} {F : Nat} {a2 : Int32} {a4 : Int32} {M : mm} {M' : mm} (d : Nat) (h : m_X12_copies_102_100 F a2 a4 M = some M') : CM G yX12_copies cX12_copies 5 none (d + 0) [vR 102 0, vI a2, vR 100 0, vI a4] M none M' := by
  refine ct_v (ls := [some (vR 102 0), some (vI a2), some (vR 100 0), some (vI a4), none]) rfl rfl (Nat.le_of_ble_eq_true rfl) (fun Z => ?_) h
  show SW G (d + 0) YX12_copies_102_100 Z 0 [some (vR 102 0), some (vI a2), some (vR 100 0), some (vI a4), none] [] M _ _
  unfold m_X12_copies_102_100
  refine s_step (g_iconst (iRow iCX12_copies_0 0 rfl) kc_0) ?_
  refine s_step (g_istore (ls' := [some (vR 102 0), some (vI a2), some (vR 100 0), some (vI a4), some (vI (0 : Int32))]) (iRow iCX12_copies_0 1 rfl) (by decide) rfl) ?_
  refine s_lp (fun z => [some (vR 102 0), some (vI a2), some (vR 100 0), some (vI a4), some (vI (z.1))]) (fun z => z.2) (fun z => LM G (d + 0) YX12_copies_102_100 Z 27 [none, none, none, none, none] [] z) rfl rfl ?_ ?_
  · rintro ⟨x1, M2⟩
    show SW G (d + 0) YX12_copies_102_100 Z 3 [some (vR 102 0), some (vI a2), some (vR 100 0), some (vI a4), some (vI x1)] [] M2 (b_X12_copies_102_100_1c F a2 a4 x1 M2) _
    unfold b_X12_copies_102_100_1c
    refine s_step (g_iload (iRow iCX12_copies_0 2 rfl) rfl) ?_
    refine s_step (g_iconst (iRow iCX12_copies_0 3 rfl) kc_4) ?_
    refine s_if (g_icmp_ge (tgt := 27) (iRow iCX12_copies_0 4 rfl) (by decide)) (fun _ => ?_) (fun _ => ?_)
    · refine s_step (g_keep [false, false, false, false, false] rfl) ?_
      exact s_end (fun h => h)
    · refine s_step (g_aload_n (iRow iCX12_copies_0 5 rfl) rfl rfl) ?_
      refine s_step (g_iload_n (iRow iCX12_copies_0 6 rfl) rfl rfl) ?_
      refine s_step (g_iload (iRow iCX12_copies_0 7 rfl) rfl) ?_
      refine s_step (g_iadd (iRow iCX12_copies_0 8 rfl)) ?_
      refine s_step (g_aload_n (iRow iCX12_copies_0 9 rfl) rfl rfl) ?_
      refine s_step (g_iload_n (iRow iCX12_copies_0 10 rfl) rfl rfl) ?_
      refine s_step (g_iload (iRow iCX12_copies_0 11 rfl) rfl) ?_
      refine s_step (g_iadd (iRow iCX12_copies_0 12 rfl)) ?_
      refine s_gi (fun h => g_iald (iRow iCX12_copies_0 13 rfl) kn_102 ka_102 h) ?_
      refine s_gi (fun h => g_iast (iRow iCX12_copies_0 14 rfl) kn_100 ka_100 h) ?_
      refine s_nmM (fun M3 => ?_)
      refine s_step (g_iincc (c := 1) (ls' := [some (vR 102 0), some (vI a2), some (vR 100 0), some (vI a4), some (vI (x1 + (1 : Int32)))]) (iRow iCX12_copies_0 15 rfl) rfl kc_1 (by decide) rfl) ?_
      refine s_step (g_goto (tgt := 3) (iRow iCX12_copies_0 16 rfl) (by decide)) ?_
      exact s_end (fun h => h)
  · rintro M4
    show SW G (d + 0) YX12_copies_102_100 Z 27 [none, none, none, none, none] [] M4 _ _
    try dsimp only
    exact s_retv (iRow iCX12_copies_0 17 rfl) rfl
