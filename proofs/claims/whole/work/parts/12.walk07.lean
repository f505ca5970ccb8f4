abbrev YX12_worked : mY := (RX12, "worked", cX12_worked, 6, (some .int), none)
set_option maxHeartbeats 400000 in
set_option maxRecDepth 20000 in
theorem t_X12_worked {G : mg} {F : Nat} {a1 : Int32} {M : mm} {x : Int32} {M' : mm} (d : Nat) (h : m_X12_worked F a1 M = some (x, M')) : CM G yX12_worked cX12_worked 6 (some .int) (d + 2) [vR 13 0, vI a1] M (some (vI x)) M' := by
  refine ct_i (ls := [some (vR 13 0), some (vI a1), none, none, none, none]) rfl rfl (Nat.le_of_ble_eq_true rfl) (fun Z => ?_) h
  show SW G (d + 2) YX12_worked Z 0 [some (vR 13 0), some (vI a1), none, none, none, none] [] M _ _
  unfold m_X12_worked
  refine s_step (g_iconst (iRow iCX12_worked_0 0 rfl) kc_0) ?_
  refine s_step (g_istore_n (ls' := [some (vR 13 0), some (vI a1), some (vI (0 : Int32)), none, none, none]) (iRow iCX12_worked_0 1 rfl) rfl (by decide) rfl) ?_
  refine s_step (g_aload_n (iRow iCX12_worked_0 2 rfl) rfl rfl) ?_
  refine s_step (g_iconst (iRow iCX12_worked_0 3 rfl) kc_0) ?_
  refine s_cv (stA := []) (fun _ h => h_V (As := [_]) (iRow iCX12_worked_0 4 rfl) l12_237 iX12_opens ko_13 rfl rfl rfl rfl (t_X12_opens (d + 1) h) rfl (by omega) (by decide) (Nat.le_of_ble_eq_true rfl)) (fun M1 => ?_)
  refine s_step (g_aload_n (iRow iCX12_worked_0 5 rfl) rfl rfl) ?_
  refine s_step (g_getR (iRow iCX12_worked_0 6 rfl) f12_59 ko_13 (r_13_25 _ _)) ?_
  refine s_step (g_iload_n (iRow iCX12_worked_0 7 rfl) rfl rfl) ?_
  refine s_gi (fun h => g_iald (iRow iCX12_worked_0 8 rfl) kn_79 ka_79 h) ?_
  refine s_nmI (fun x2 => ?_)
  refine s_step (g_istore_n (ls' := [some (vR 13 0), some (vI a1), some (vI (0 : Int32)), some (vI x2), none, none]) (iRow iCX12_worked_0 9 rfl) rfl (by decide) rfl) ?_
  refine s_lp (fun z => [some (vR 13 0), some (vI a1), some (vI (z.1)), some (vI (z.2.1)), none, none]) (fun z => z.2.2) (fun z => LM G (d + 2) YX12_worked Z 335 [some (vR 13 0), none, none, none, none, none] [] z) rfl rfl ?_ ?_
  · rintro ⟨x3, x4, M5⟩
    show SW G (d + 2) YX12_worked Z 14 [some (vR 13 0), some (vI a1), some (vI x3), some (vI x4), none, none] [] M5 (b_X12_worked_1c F a1 x3 x4 M5) _
    unfold b_X12_worked_1c
    refine s_step (g_iload_n (iRow iCX12_worked_0 10 rfl) rfl rfl) ?_
    refine s_step (g_aload_n (iRow iCX12_worked_0 11 rfl) rfl rfl) ?_
    refine s_step (g_getR (iRow iCX12_worked_0 12 rfl) f12_62 ko_13 (r_13_26 _ _)) ?_
    refine s_step (g_iload_n (iRow iCX12_worked_0 13 rfl) rfl rfl) ?_
    refine s_gi (fun h => g_iald (iRow iCX12_worked_0 14 rfl) kn_80 ka_80 h) ?_
    refine s_if (g_icmp_ge (tgt := 335) (iRow iCX12_worked_0 15 rfl) (by decide)) (fun _ => ?_) (fun _ => ?_)
    · refine s_step (g_keep [true, false, false, false, false, false] rfl) ?_
      exact s_end (fun h => h)
    · refine s_step (g_aload_n (iRow iCX12_worked_0 16 rfl) rfl rfl) ?_
      refine s_step (g_getR (iRow iCX12_worked_0 17 rfl) f12_65 ko_13 (r_13_27 _ _)) ?_
      refine s_step (g_iload_n (iRow iCX12_worked_0 18 rfl) rfl rfl) ?_
      refine s_gi (fun h => g_iald (iRow iCX12_worked_0 19 rfl) kn_81 ka_81 h) ?_
      refine s_nmI (fun x6 => ?_)
      refine s_step (g_istore (ls' := [some (vR 13 0), some (vI a1), some (vI x3), some (vI x4), some (vI x6), none]) (iRow iCX12_worked_0 20 rfl) (by decide) rfl) ?_
      refine s_step (g_iload (iRow iCX12_worked_0 21 rfl) rfl) ?_
      refine s_step (g_bipush (iRow iCX12_worked_0 22 rfl) kb_28) ?_
      refine s_bd (fun z => LM G (d + 2) YX12_worked Z 329 [some (vR 13 0), some (vI a1), some (vI (z.1)), some (vI x4), none, none] [] z.2) ?_ ?_
      · refine s_nj 46 (fun z => [some (vR 13 0), some (vI a1), some (vI x3), some (vI x4), some (vI x6), none]) (fun z => []) (fun z => M5) ?_ (fun j46 hj46 => ?_)
        · intro _
          show SW G (d + 2) YX12_worked Z 46 [some (vR 13 0), some (vI a1), some (vI x3), some (vI x4), some (vI x6), none] [] M5 _ _
          try dsimp only
          refine s_step (g_iincc (c := 1) (ls' := [some (vR 13 0), some (vI a1), some (vI (x3 + (1 : Int32))), some (vI x4), some (vI x6), none]) (iRow iCX12_worked_1 3 rfl) rfl kc_1 (by decide) rfl) ?_
          refine s_step (g_aload_n (iRow iCX12_worked_1 4 rfl) rfl rfl) ?_
          refine s_step (g_getR (iRow iCX12_worked_1 5 rfl) f12_99 ko_13 (r_13_40 _ _)) ?_
          refine s_step (g_iload_n (iRow iCX12_worked_1 6 rfl) rfl rfl) ?_
          refine s_step (g_iload (iRow iCX12_worked_1 7 rfl) rfl) ?_
          refine s_step (g_bipush (iRow iCX12_worked_1 8 rfl) kb_30) ?_
          refine s_bd (fun z => LM G (d + 2) YX12_worked Z 66 [some (vR 13 0), some (vI a1), some (vI (x3 + (1 : Int32))), some (vI x4), none, none] [vI z, vI (x3 + (1 : Int32)), vR 92 0] M5) ?_ ?_
          · refine s_ifn (g_icmp_ne (tgt := 65) (iRow iCX12_worked_1 9 rfl) (by decide)) (fun _ => ?_) (fun _ => ?_)
            · refine s_step (g_iconst (iRow iCX12_worked_1 10 rfl) kc_1) ?_
              refine s_step (g_goto (tgt := 66) (iRow iCX12_worked_1 11 rfl) (by decide)) ?_
              refine s_step (g_keep [true, true, true, true, false, false] rfl) ?_
              exact s_end (fun h => h)
            · refine s_step (g_iconst (iRow iCX12_worked_1 12 rfl) kc_0) ?_
              refine s_step (g_keep [true, true, true, true, false, false] rfl) ?_
              exact s_end (fun h => h)
          · rintro x30
            show SW G (d + 2) YX12_worked Z 66 [some (vR 13 0), some (vI a1), some (vI (x3 + (1 : Int32))), some (vI x4), none, none] [vI x30, vI (x3 + (1 : Int32)), vR 92 0] M5 _ _
            try dsimp only
            refine s_gi (fun h => g_iast (iRow iCX12_worked_1 13 rfl) kn_92 ka_92 h) ?_
            refine s_nmM (fun M31 => ?_)
            refine s_step (g_aload_n (iRow iCX12_worked_1 14 rfl) rfl rfl) ?_
            refine s_step (g_iload_n (iRow iCX12_worked_1 15 rfl) rfl rfl) ?_
            refine s_cv (stA := []) (fun _ h => h_V (As := [_]) (iRow iCX12_worked_1 16 rfl) l12_237 iX12_opens ko_13 rfl rfl rfl rfl (t_X12_opens (d + 1) h) rfl (by omega) (by decide) (Nat.le_of_ble_eq_true rfl)) (fun M32 => ?_)
            refine s_step (g_goto (tgt := 329) (iRow iCX12_worked_1 17 rfl) (by decide)) ?_
            exact s_end (fun h => h)
        · refine s_if (g_icmp_eq (tgt := 46) (iRow iCX12_worked_0 23 rfl) (by decide)) (fun _ => ?_) (fun _ => ?_)
          · exact hj46 _
          · refine s_step (g_iload (iRow iCX12_worked_1 0 rfl) rfl) ?_
            refine s_step (g_bipush (iRow iCX12_worked_1 1 rfl) kb_30) ?_
            refine s_ifn (g_icmp_ne (tgt := 75) (iRow iCX12_worked_1 2 rfl) (by decide)) (fun _ => ?_) (fun _ => ?_)
            · exact hj46 _
            · refine s_step (g_iload (iRow iCX12_worked_1 18 rfl) rfl) ?_
              refine s_step (g_bipush (iRow iCX12_worked_1 19 rfl) kb_20) ?_
              refine s_nj 89 (fun z => [some (vR 13 0), some (vI a1), some (vI x3), some (vI x4), some (vI x6), none]) (fun z => []) (fun z => M5) ?_ (fun j89 hj89 => ?_)
              · intro _
                show SW G (d + 2) YX12_worked Z 89 [some (vR 13 0), some (vI a1), some (vI x3), some (vI x4), some (vI x6), none] [] M5 _ _
                try dsimp only
                refine s_step (g_aload_n (iRow iCX12_worked_2 0 rfl) rfl rfl) ?_
                refine s_step (g_iload_n (iRow iCX12_worked_2 1 rfl) rfl rfl) ?_
                refine s_cv (stA := []) (fun _ h => h_V (As := [_]) (iRow iCX12_worked_2 2 rfl) l12_234 iX12_sums ko_13 rfl rfl rfl rfl (t_X12_sums (d + 1) h) rfl (by omega) (by decide) (Nat.le_of_ble_eq_true rfl)) (fun M28 => ?_)
                refine s_step (g_aload_n (iRow iCX12_worked_2 3 rfl) rfl rfl) ?_
                refine s_step (g_getR (iRow iCX12_worked_2 4 rfl) f12_90 ko_13 (r_13_37 _ _)) ?_
                refine s_step (g_iload_n (iRow iCX12_worked_2 5 rfl) rfl rfl) ?_
                refine s_step (g_iload (iRow iCX12_worked_2 6 rfl) rfl) ?_
                refine s_gi (fun h => g_iast (iRow iCX12_worked_2 7 rfl) kn_89 ka_89 h) ?_
                refine s_nmM (fun M29 => ?_)
                refine s_step (g_goto (tgt := 329) (iRow iCX12_worked_2 8 rfl) (by decide)) ?_
                refine s_step (g_keep [true, true, true, true, false, false] rfl) ?_
                exact s_end (fun h => h)
              · refine s_if (g_icmp_eq (tgt := 89) (iRow iCX12_worked_1 20 rfl) (by decide)) (fun _ => ?_) (fun _ => ?_)
                · exact hj89 _
                · refine s_step (g_iload (iRow iCX12_worked_1 21 rfl) rfl) ?_
                  refine s_step (g_bipush (iRow iCX12_worked_1 22 rfl) kb_21) ?_
                  refine s_ifn (g_icmp_ne (tgt := 105) (iRow iCX12_worked_1 23 rfl) (by decide)) (fun _ => ?_) (fun _ => ?_)
                  · exact hj89 _
                  · refine s_step (g_iload (iRow iCX12_worked_2 9 rfl) rfl) ?_
                    refine s_step (g_bipush (iRow iCX12_worked_2 10 rfl) kb_22) ?_
                    refine s_ifn (g_icmp_ne (tgt := 123) (iRow iCX12_worked_2 11 rfl) (by decide)) (fun _ => ?_) (fun _ => ?_)
                    · refine s_step (g_aload_n (iRow iCX12_worked_2 12 rfl) rfl rfl) ?_
                      refine s_step (g_getR (iRow iCX12_worked_2 13 rfl) f12_96 ko_13 (r_13_39 _ _)) ?_
                      refine s_step (g_iload_n (iRow iCX12_worked_2 14 rfl) rfl rfl) ?_
                      refine s_step (g_iload (iRow iCX12_worked_2 15 rfl) rfl) ?_
                      refine s_gi (fun h => g_iast (iRow iCX12_worked_2 16 rfl) kn_91 ka_91 h) ?_
                      refine s_nmM (fun M27 => ?_)
                      refine s_step (g_goto (tgt := 329) (iRow iCX12_worked_2 17 rfl) (by decide)) ?_
                      refine s_step (g_keep [true, true, true, true, false, false] rfl) ?_
                      exact s_end (fun h => h)
                    · refine s_step (g_iload (iRow iCX12_worked_2 18 rfl) rfl) ?_
                      refine s_step (g_bipush (iRow iCX12_worked_2 19 rfl) kb_24) ?_
                      refine s_nj 137 (fun z => [some (vR 13 0), some (vI a1), some (vI x3), some (vI x4), some (vI x6), none]) (fun z => []) (fun z => M5) ?_ (fun j137 hj137 => ?_)
                      · intro _
                        show SW G (d + 2) YX12_worked Z 137 [some (vR 13 0), some (vI a1), some (vI x3), some (vI x4), some (vI x6), none] [] M5 _ _
                        try dsimp only
                        refine s_step (g_aload_n (iRow iCX12_worked_3 0 rfl) rfl rfl) ?_
                        refine s_step (g_iload_n (iRow iCX12_worked_3 1 rfl) rfl rfl) ?_
                        refine s_cv (stA := []) (fun _ h => h_V (As := [_]) (iRow iCX12_worked_3 2 rfl) l12_234 iX12_sums ko_13 rfl rfl rfl rfl (t_X12_sums (d + 1) h) rfl (by omega) (by decide) (Nat.le_of_ble_eq_true rfl)) (fun M22 => ?_)
                        refine s_step (g_aload_n (iRow iCX12_worked_3 3 rfl) rfl rfl) ?_
                        refine s_step (g_getR (iRow iCX12_worked_3 4 rfl) f12_81 ko_13 (r_13_34 _ _)) ?_
                        refine s_step (g_iload_n (iRow iCX12_worked_3 5 rfl) rfl rfl) ?_
                        refine s_step (g_aload_n (iRow iCX12_worked_3 6 rfl) rfl rfl) ?_
                        refine s_step (g_getR (iRow iCX12_worked_3 7 rfl) f12_87 ko_13 (r_13_36 _ _)) ?_
                        refine s_step (g_iload_n (iRow iCX12_worked_3 8 rfl) rfl rfl) ?_
                        refine s_gi (fun h => g_iald (iRow iCX12_worked_3 9 rfl) kn_88 ka_88 h) ?_
                        refine s_gi (fun h => g_iast (iRow iCX12_worked_3 10 rfl) kn_86 ka_86 h) ?_
                        refine s_nmM (fun M23 => ?_)
                        refine s_step (g_aload_n (iRow iCX12_worked_3 11 rfl) rfl rfl) ?_
                        refine s_step (g_getR (iRow iCX12_worked_3 12 rfl) f12_84 ko_13 (r_13_35 _ _)) ?_
                        refine s_step (g_iload_n (iRow iCX12_worked_3 13 rfl) rfl rfl) ?_
                        refine s_step (g_iload (iRow iCX12_worked_3 14 rfl) rfl) ?_
                        refine s_gi (fun h => g_iast (iRow iCX12_worked_3 15 rfl) kn_87 ka_87 h) ?_
                        refine s_nmM (fun M24 => ?_)
                        refine s_step (g_aload_n (iRow iCX12_worked_3 16 rfl) rfl rfl) ?_
                        refine s_step (g_getR (iRow iCX12_worked_3 17 rfl) f12_87 ko_13 (r_13_36 _ _)) ?_
                        refine s_step (g_iload_n (iRow iCX12_worked_3 18 rfl) rfl rfl) ?_
                        refine s_step (g_iconst (iRow iCX12_worked_3 19 rfl) kc_0) ?_
                        refine s_gi (fun h => g_iast (iRow iCX12_worked_3 20 rfl) kn_88 ka_88 h) ?_
                        refine s_nmM (fun M25 => ?_)
                        refine s_step (g_aload_n (iRow iCX12_worked_3 21 rfl) rfl rfl) ?_
                        refine s_step (g_getR (iRow iCX12_worked_3 22 rfl) f12_90 ko_13 (r_13_37 _ _)) ?_
                        refine s_step (g_iload_n (iRow iCX12_worked_3 23 rfl) rfl rfl) ?_
                        refine s_step (g_bipush (iRow iCX12_worked_4 0 rfl) kb_20) ?_
                        refine s_gi (fun h => g_iast (iRow iCX12_worked_4 1 rfl) kn_89 ka_89 h) ?_
                        refine s_nmM (fun M26 => ?_)
                        refine s_step (g_goto (tgt := 329) (iRow iCX12_worked_4 2 rfl) (by decide)) ?_
                        refine s_step (g_keep [true, true, true, true, false, false] rfl) ?_
                        exact s_end (fun h => h)
                      · refine s_if (g_icmp_eq (tgt := 137) (iRow iCX12_worked_2 20 rfl) (by decide)) (fun _ => ?_) (fun _ => ?_)
                        · exact hj137 _
                        · refine s_step (g_iload (iRow iCX12_worked_2 21 rfl) rfl) ?_
                          refine s_step (g_bipush (iRow iCX12_worked_2 22 rfl) kb_25) ?_
                          refine s_ifn (g_icmp_ne (tgt := 180) (iRow iCX12_worked_2 23 rfl) (by decide)) (fun _ => ?_) (fun _ => ?_)
                          · exact hj137 _
                          · refine s_step (g_iload (iRow iCX12_worked_4 3 rfl) rfl) ?_
                            refine s_step (g_bipush (iRow iCX12_worked_4 4 rfl) kb_26) ?_
                            refine s_nj 194 (fun z => [some (vR 13 0), some (vI a1), some (vI x3), some (vI x4), some (vI x6), none]) (fun z => []) (fun z => M5) ?_ (fun j194 hj194 => ?_)
                            · intro _
                              show SW G (d + 2) YX12_worked Z 194 [some (vR 13 0), some (vI a1), some (vI x3), some (vI x4), some (vI x6), none] [] M5 _ _
                              try dsimp only
                              refine s_step (g_aload_n (iRow iCX12_worked_4 9 rfl) rfl rfl) ?_
                              refine s_step (g_iload_n (iRow iCX12_worked_4 10 rfl) rfl rfl) ?_
                              refine s_cv (stA := []) (fun _ h => h_V (As := [_]) (iRow iCX12_worked_4 11 rfl) l12_240 iX12_tests ko_13 rfl rfl rfl rfl (t_X12_tests (d + 0) h) rfl (by omega) (by decide) (Nat.le_of_ble_eq_true rfl)) (fun M20 => ?_)
                              refine s_step (g_aload_n (iRow iCX12_worked_4 12 rfl) rfl rfl) ?_
                              refine s_step (g_getR (iRow iCX12_worked_4 13 rfl) f12_78 ko_13 (r_13_33 _ _)) ?_
                              refine s_step (g_iload_n (iRow iCX12_worked_4 14 rfl) rfl rfl) ?_
                              refine s_step (g_iload (iRow iCX12_worked_4 15 rfl) rfl) ?_
                              refine s_gi (fun h => g_iast (iRow iCX12_worked_4 16 rfl) kn_85 ka_85 h) ?_
                              refine s_nmM (fun M21 => ?_)
                              refine s_step (g_goto (tgt := 329) (iRow iCX12_worked_4 17 rfl) (by decide)) ?_
                              refine s_step (g_keep [true, true, true, true, false, false] rfl) ?_
                              exact s_end (fun h => h)
                            · refine s_if (g_icmp_eq (tgt := 194) (iRow iCX12_worked_4 5 rfl) (by decide)) (fun _ => ?_) (fun _ => ?_)
                              · exact hj194 _
                              · refine s_step (g_iload (iRow iCX12_worked_4 6 rfl) rfl) ?_
                                refine s_step (g_bipush (iRow iCX12_worked_4 7 rfl) kb_27) ?_
                                refine s_ifn (g_icmp_ne (tgt := 210) (iRow iCX12_worked_4 8 rfl) (by decide)) (fun _ => ?_) (fun _ => ?_)
                                · exact hj194 _
                                · refine s_step (g_iload (iRow iCX12_worked_4 18 rfl) rfl) ?_
                                  refine s_step (g_bipush (iRow iCX12_worked_4 19 rfl) kb_100) ?_
                                  refine s_bd (fun z => LM G (d + 2) YX12_worked Z 243 [some (vR 13 0), some (vI a1), some (vI x3), some (vI x4), some (vI x6), none] [vI z] M5) ?_ ?_
                                  · refine s_if (g_icmp_lt (tgt := 225) (iRow iCX12_worked_4 20 rfl) (by decide)) (fun _ => ?_) (fun _ => ?_)
                                    · refine s_step (g_iload (iRow iCX12_worked_5 1 rfl) rfl) ?_
                                      refine s_step (g_bipush (iRow iCX12_worked_5 2 rfl) kb_20) ?_
                                      refine s_if (g_icmp_ge (tgt := 242) (iRow iCX12_worked_5 3 rfl) (by decide)) (fun _ => ?_) (fun _ => ?_)
                                      · refine s_step (g_iconst (iRow iCX12_worked_5 9 rfl) kc_0) ?_
                                        exact s_end (fun h => h)
                                      · refine s_step (g_aload_n (iRow iCX12_worked_5 4 rfl) rfl rfl) ?_
                                        refine s_step (g_getR (iRow iCX12_worked_5 5 rfl) f12_102 ko_13 (r_13_41 _ _)) ?_
                                        refine s_step (g_iload (iRow iCX12_worked_5 6 rfl) rfl) ?_
                                        refine s_gi (fun h => g_iald (iRow iCX12_worked_5 7 rfl) kn_93 ka_93 h) ?_
                                        refine s_step (g_goto (tgt := 243) (iRow iCX12_worked_5 8 rfl) (by decide)) ?_
                                        exact s_end (fun h => h)
                                    · refine s_step (g_iload (iRow iCX12_worked_4 21 rfl) rfl) ?_
                                      refine s_step (g_bipush (iRow iCX12_worked_4 22 rfl) kb_100) ?_
                                      refine s_step (g_isub (iRow iCX12_worked_4 23 rfl)) ?_
                                      refine s_step (g_goto (tgt := 243) (iRow iCX12_worked_5 0 rfl) (by decide)) ?_
                                      exact s_end (fun h => h)
                                  · rintro x7
                                    show SW G (d + 2) YX12_worked Z 243 [some (vR 13 0), some (vI a1), some (vI x3), some (vI x4), some (vI x6), none] [vI x7] M5 _ _
                                    try dsimp only
                                    refine s_step (g_istore (ls' := [some (vR 13 0), some (vI a1), some (vI x3), some (vI x4), some (vI x6), some (vI x7)]) (iRow iCX12_worked_5 10 rfl) (by decide) rfl) ?_
                                    refine s_step (g_iload (iRow iCX12_worked_5 11 rfl) rfl) ?_
                                    refine s_step (g_bipush (iRow iCX12_worked_5 12 rfl) kb_29) ?_
                                    refine s_bd (fun z => LM G (d + 2) YX12_worked Z 268 [some (vR 13 0), some (vI a1), some (vI (z.1)), some (vI x4), none, some (vI (z.2.1))] [] z.2.2) ?_ ?_
                                    · refine s_ifn (g_icmp_ne (tgt := 268) (iRow iCX12_worked_5 13 rfl) (by decide)) (fun _ => ?_) (fun _ => ?_)
                                      · refine s_step (g_aload_n (iRow iCX12_worked_5 14 rfl) rfl rfl) ?_
                                        refine s_step (g_iload_n (iRow iCX12_worked_5 15 rfl) rfl rfl) ?_
                                        refine s_cv (stA := []) (fun _ h => h_V (As := [_]) (iRow iCX12_worked_5 16 rfl) l12_240 iX12_tests ko_13 rfl rfl rfl rfl (t_X12_tests (d + 0) h) rfl (by omega) (by decide) (Nat.le_of_ble_eq_true rfl)) (fun M8 => ?_)
                                        refine s_step (g_aload_n (iRow iCX12_worked_5 17 rfl) rfl rfl) ?_
                                        refine s_step (g_getR (iRow iCX12_worked_5 18 rfl) f12_75 ko_13 (r_13_32 _ _)) ?_
                                        refine s_step (g_iload_n (iRow iCX12_worked_5 19 rfl) rfl rfl) ?_
                                        refine s_gi (fun h => g_iald (iRow iCX12_worked_5 20 rfl) kn_84 ka_84 h) ?_
                                        refine s_nmI (fun x9 => ?_)
                                        refine s_step (g_istore (ls' := [some (vR 13 0), some (vI a1), some (vI x3), some (vI x4), some (vI x6), some (vI x9)]) (iRow iCX12_worked_5 21 rfl) (by decide) rfl) ?_
                                        refine s_step (g_iincc (c := (-1)) (ls' := [some (vR 13 0), some (vI a1), some (vI (x3 + (-1 : Int32))), some (vI x4), some (vI x6), some (vI x9)]) (iRow iCX12_worked_5 22 rfl) rfl kc_m1 (by decide) rfl) ?_
                                        refine s_step (g_keep [true, true, true, true, false, true] rfl) ?_
                                        exact s_end (fun h => h)
                                      · refine s_step (g_keep [true, true, true, true, false, true] rfl) ?_
                                        exact s_end (fun h => h)
                                    · rintro ⟨x10, x11, M12⟩
                                      show SW G (d + 2) YX12_worked Z 268 [some (vR 13 0), some (vI a1), some (vI x10), some (vI x4), none, some (vI x11)] [] M12 _ _
                                      try dsimp only
                                      refine s_lp (fun z => [some (vR 13 0), some (vI a1), some (vI (z.1)), some (vI x4), none, some (vI (z.2))]) (fun _ => M12) (fun z => LM G (d + 2) YX12_worked Z 300 [some (vR 13 0), some (vI a1), some (vI (z.1)), some (vI x4), none, some (vI (z.2))] [] M12) rfl rfl ?_ ?_
                                      · rintro ⟨x13, x14⟩
                                        show SW G (d + 2) YX12_worked Z 268 [some (vR 13 0), some (vI a1), some (vI x13), some (vI x4), none, some (vI x14)] [] M12 (b_X12_worked_2c F M12 x13 x14) _
                                        unfold b_X12_worked_2c
                                        refine s_step (g_iload_n (iRow iCX12_worked_5 23 rfl) rfl rfl) ?_
                                        refine s_if (g_if_le (tgt := 300) (iRow iCX12_worked_6 0 rfl) (by decide)) (fun _ => ?_) (fun _ => ?_)
                                        · exact s_end (fun h => h)
                                        · refine s_step (g_aload_n (iRow iCX12_worked_6 1 rfl) rfl rfl) ?_
                                          refine s_step (g_getR (iRow iCX12_worked_6 2 rfl) f12_99 ko_13 (r_13_40 _ _)) ?_
                                          refine s_step (g_iload_n (iRow iCX12_worked_6 3 rfl) rfl rfl) ?_
                                          refine s_gi (fun h => g_iald (iRow iCX12_worked_6 4 rfl) kn_92 ka_92 h) ?_
                                          refine s_step (g_iconst (iRow iCX12_worked_6 5 rfl) kc_1) ?_
                                          refine s_ifn (g_icmp_ne (tgt := 300) (iRow iCX12_worked_6 6 rfl) (by decide)) (fun _ => ?_) (fun _ => ?_)
                                          · refine s_step (g_iload (iRow iCX12_worked_6 7 rfl) rfl) ?_
                                            refine s_bd (fun z => LM G (d + 2) YX12_worked Z 292 [some (vR 13 0), some (vI a1), some (vI x13), some (vI x4), none, none] [vI z] M12) ?_ ?_
                                            · refine s_ifn (g_if_ne (tgt := 291) (iRow iCX12_worked_6 8 rfl) (by decide)) (fun _ => ?_) (fun _ => ?_)
                                              · refine s_step (g_iconst (iRow iCX12_worked_6 9 rfl) kc_1) ?_
                                                refine s_step (g_goto (tgt := 292) (iRow iCX12_worked_6 10 rfl) (by decide)) ?_
                                                refine s_step (g_keep [true, true, true, true, false, false] rfl) ?_
                                                exact s_end (fun h => h)
                                              · refine s_step (g_iconst (iRow iCX12_worked_6 11 rfl) kc_0) ?_
                                                refine s_step (g_keep [true, true, true, true, false, false] rfl) ?_
                                                exact s_end (fun h => h)
                                            · rintro x15
                                              show SW G (d + 2) YX12_worked Z 292 [some (vR 13 0), some (vI a1), some (vI x13), some (vI x4), none, none] [vI x15] M12 _ _
                                              try dsimp only
                                              refine s_step (g_istore (ls' := [some (vR 13 0), some (vI a1), some (vI x13), some (vI x4), none, some (vI x15)]) (iRow iCX12_worked_6 12 rfl) (by decide) rfl) ?_
                                              refine s_step (g_iincc (c := (-1)) (ls' := [some (vR 13 0), some (vI a1), some (vI (x13 + (-1 : Int32))), some (vI x4), none, some (vI x15)]) (iRow iCX12_worked_6 13 rfl) rfl kc_m1 (by decide) rfl) ?_
                                              refine s_step (g_goto (tgt := 268) (iRow iCX12_worked_6 14 rfl) (by decide)) ?_
                                              exact s_end (fun h => h)
                                          · exact s_end (fun h => h)
                                      · rintro ⟨x16, x17⟩
                                        show SW G (d + 2) YX12_worked Z 300 [some (vR 13 0), some (vI a1), some (vI x16), some (vI x4), none, some (vI x17)] [] M12 _ _
                                        try dsimp only
                                        refine s_step (g_aload_n (iRow iCX12_worked_6 15 rfl) rfl rfl) ?_
                                        refine s_step (g_getR (iRow iCX12_worked_6 16 rfl) f12_93 ko_13 (r_13_38 _ _)) ?_
                                        refine s_step (g_iload_n (iRow iCX12_worked_6 17 rfl) rfl rfl) ?_
                                        refine s_step (g_aload_n (iRow iCX12_worked_6 18 rfl) rfl rfl) ?_
                                        refine s_step (g_getR (iRow iCX12_worked_6 19 rfl) f12_96 ko_13 (r_13_39 _ _)) ?_
                                        refine s_step (g_iload_n (iRow iCX12_worked_6 20 rfl) rfl rfl) ?_
                                        refine s_gi (fun h => g_iald (iRow iCX12_worked_6 21 rfl) kn_91 ka_91 h) ?_
                                        refine s_bd (fun z => LM G (d + 2) YX12_worked Z 328 [some (vR 13 0), some (vI a1), some (vI x16), some (vI x4), none, none] [vI z, vI x16, vR 90 0] M12) ?_ ?_
                                        · refine s_ifn (g_if_ne (tgt := 319) (iRow iCX12_worked_6 22 rfl) (by decide)) (fun _ => ?_) (fun _ => ?_)
                                          · refine s_step (g_iload (iRow iCX12_worked_6 23 rfl) rfl) ?_
                                            refine s_step (g_goto (tgt := 328) (iRow iCX12_worked_7 0 rfl) (by decide)) ?_
                                            refine s_step (g_keep [true, true, true, true, false, false] rfl) ?_
                                            exact s_end (fun h => h)
                                          · refine s_step (g_aload_n (iRow iCX12_worked_7 1 rfl) rfl rfl) ?_
                                            refine s_step (g_getR (iRow iCX12_worked_7 2 rfl) f12_93 ko_13 (r_13_38 _ _)) ?_
                                            refine s_step (g_iload_n (iRow iCX12_worked_7 3 rfl) rfl rfl) ?_
                                            refine s_gi (fun h => g_iald (iRow iCX12_worked_7 4 rfl) kn_90 ka_90 h) ?_
                                            refine s_step (g_iload (iRow iCX12_worked_7 5 rfl) rfl) ?_
                                            refine s_step (g_imul (iRow iCX12_worked_7 6 rfl)) ?_
                                            refine s_step (g_keep [true, true, true, true, false, false] rfl) ?_
                                            exact s_end (fun h => h)
                                        · rintro x18
                                          show SW G (d + 2) YX12_worked Z 328 [some (vR 13 0), some (vI a1), some (vI x16), some (vI x4), none, none] [vI x18, vI x16, vR 90 0] M12 _ _
                                          try dsimp only
                                          refine s_gi (fun h => g_iast (iRow iCX12_worked_7 7 rfl) kn_90 ka_90 h) ?_
                                          refine s_nmM (fun M19 => ?_)
                                          exact s_end (fun h => h)
      · rintro ⟨x33, M34⟩
        show SW G (d + 2) YX12_worked Z 329 [some (vR 13 0), some (vI a1), some (vI x33), some (vI x4), none, none] [] M34 _ _
        try dsimp only
        refine s_step (g_iincc (c := 1) (ls' := [some (vR 13 0), some (vI a1), some (vI x33), some (vI (x4 + (1 : Int32))), none, none]) (iRow iCX12_worked_7 8 rfl) rfl kc_1 (by decide) rfl) ?_
        refine s_step (g_goto (tgt := 14) (iRow iCX12_worked_7 9 rfl) (by decide)) ?_
        exact s_end (fun h => h)
  · rintro M35
    show SW G (d + 2) YX12_worked Z 335 [some (vR 13 0), none, none, none, none, none] [] M35 _ _
    try dsimp only
    refine s_step (g_aload_n (iRow iCX12_worked_7 10 rfl) rfl rfl) ?_
    refine s_step (g_iconst (iRow iCX12_worked_7 11 rfl) kc_0) ?_
    refine s_cv (stA := []) (fun _ h => h_V (As := [_]) (iRow iCX12_worked_7 12 rfl) l12_240 iX12_tests ko_13 rfl rfl rfl rfl (t_X12_tests (d + 0) h) rfl (by omega) (by decide) (Nat.le_of_ble_eq_true rfl)) (fun M36 => ?_)
    refine s_step (g_aload_n (iRow iCX12_worked_7 13 rfl) rfl rfl) ?_
    refine s_step (g_getR (iRow iCX12_worked_7 14 rfl) f12_75 ko_13 (r_13_32 _ _)) ?_
    refine s_step (g_iconst (iRow iCX12_worked_7 15 rfl) kc_0) ?_
    refine s_gi (fun h => g_iald (iRow iCX12_worked_7 16 rfl) kn_84 ka_84 h) ?_
    exact s_reti (iRow iCX12_worked_7 17 rfl) rfl
abbrev YX12_isKept : mY := (RX12, "isKept", cX12_isKept, 1, (some .boolean), none)
set_option maxHeartbeats 400000 in
set_option maxRecDepth 20000 in
theorem t_X12_isKept {G : mg} {F : Nat} {M : mm} {x : Bool} {M' : mm} (d : Nat) (h : m_X12_isKept F M = some (x, M')) : CM G yX12_isKept cX12_isKept 1 (some .boolean) (d + 0) [vR 13 0] M (some (vI (bI x))) M' := by
  refine ct_z (ls := [some (vR 13 0)]) rfl rfl (Nat.le_of_ble_eq_true rfl) (fun Z => ?_) h
  show SW G (d + 0) YX12_isKept Z 0 [some (vR 13 0)] [] M _ _
  unfold m_X12_isKept
  refine s_step (g_aload_n (iRow iCX12_isKept_0 0 rfl) rfl rfl) ?_
  refine s_step (g_getI (iRow iCX12_isKept_0 1 rfl) f12_182 ko_13) ?_
  refine s_step (g_iconst (iRow iCX12_isKept_0 2 rfl) kc_1) ?_
  refine s_if (g_icmp_eq (tgt := 10) (iRow iCX12_isKept_0 3 rfl) (by decide)) (fun _ => ?_) (fun _ => ?_)
  · refine s_step (g_aload_n (iRow iCX12_isKept_0 6 rfl) rfl rfl) ?_
    refine s_step (g_getL (iRow iCX12_isKept_0 7 rfl) f12_175 ko_13) ?_
    refine s_step (g_ldc2 (iRow iCX12_isKept_0 8 rfl) k12_243) ?_
    refine s_step (g_lcmp (iRow iCX12_isKept_0 9 rfl)) ?_
    refine s_if (g_if_eq (tgt := 285) (iRow iCX12_isKept_0 10 rfl) (by decide)) (fun _ => ?_) (fun _ => ?_)
    · refine s_step (g_iconst (iRow iCX12_isKept_5 11 rfl) kc_1) ?_
      refine s_step (g_goto (tgt := 290) (iRow iCX12_isKept_5 12 rfl) (by decide)) ?_
      exact s_retz (b := true) (iRow iCX12_isKept_5 14 rfl) rfl rfl
    · refine s_step (g_aload_n (iRow iCX12_isKept_0 11 rfl) rfl rfl) ?_
      refine s_step (g_getL (iRow iCX12_isKept_0 12 rfl) f12_175 ko_13) ?_
      refine s_step (g_ldc2 (iRow iCX12_isKept_0 13 rfl) k12_245) ?_
      refine s_step (g_lcmp (iRow iCX12_isKept_0 14 rfl)) ?_
      refine s_if (g_if_eq (tgt := 285) (iRow iCX12_isKept_0 15 rfl) (by decide)) (fun _ => ?_) (fun _ => ?_)
      · refine s_step (g_iconst (iRow iCX12_isKept_5 11 rfl) kc_1) ?_
        refine s_step (g_goto (tgt := 290) (iRow iCX12_isKept_5 12 rfl) (by decide)) ?_
        exact s_retz (b := true) (iRow iCX12_isKept_5 14 rfl) rfl rfl
      · refine s_step (g_aload_n (iRow iCX12_isKept_0 16 rfl) rfl rfl) ?_
        refine s_step (g_getL (iRow iCX12_isKept_0 17 rfl) f12_175 ko_13) ?_
        refine s_step (g_ldc2 (iRow iCX12_isKept_0 18 rfl) k12_247) ?_
        refine s_step (g_lcmp (iRow iCX12_isKept_0 19 rfl)) ?_
        refine s_if (g_if_eq (tgt := 285) (iRow iCX12_isKept_0 20 rfl) (by decide)) (fun _ => ?_) (fun _ => ?_)
        · refine s_step (g_iconst (iRow iCX12_isKept_5 11 rfl) kc_1) ?_
          refine s_step (g_goto (tgt := 290) (iRow iCX12_isKept_5 12 rfl) (by decide)) ?_
          exact s_retz (b := true) (iRow iCX12_isKept_5 14 rfl) rfl rfl
        · refine s_step (g_aload_n (iRow iCX12_isKept_0 21 rfl) rfl rfl) ?_
          refine s_step (g_getL (iRow iCX12_isKept_0 22 rfl) f12_175 ko_13) ?_
          refine s_step (g_ldc2 (iRow iCX12_isKept_0 23 rfl) k12_249) ?_
          refine s_step (g_lcmp (iRow iCX12_isKept_1 0 rfl)) ?_
          refine s_if (g_if_eq (tgt := 285) (iRow iCX12_isKept_1 1 rfl) (by decide)) (fun _ => ?_) (fun _ => ?_)
          · refine s_step (g_iconst (iRow iCX12_isKept_5 11 rfl) kc_1) ?_
            refine s_step (g_goto (tgt := 290) (iRow iCX12_isKept_5 12 rfl) (by decide)) ?_
            exact s_retz (b := true) (iRow iCX12_isKept_5 14 rfl) rfl rfl
          · refine s_step (g_aload_n (iRow iCX12_isKept_1 2 rfl) rfl rfl) ?_
            refine s_step (g_getL (iRow iCX12_isKept_1 3 rfl) f12_175 ko_13) ?_
            refine s_step (g_ldc2 (iRow iCX12_isKept_1 4 rfl) k12_251) ?_
            refine s_step (g_lcmp (iRow iCX12_isKept_1 5 rfl)) ?_
            refine s_if (g_if_eq (tgt := 285) (iRow iCX12_isKept_1 6 rfl) (by decide)) (fun _ => ?_) (fun _ => ?_)
            · refine s_step (g_iconst (iRow iCX12_isKept_5 11 rfl) kc_1) ?_
              refine s_step (g_goto (tgt := 290) (iRow iCX12_isKept_5 12 rfl) (by decide)) ?_
              exact s_retz (b := true) (iRow iCX12_isKept_5 14 rfl) rfl rfl
            · refine s_step (g_aload_n (iRow iCX12_isKept_1 7 rfl) rfl rfl) ?_
              refine s_step (g_getL (iRow iCX12_isKept_1 8 rfl) f12_175 ko_13) ?_
              refine s_step (g_ldc2 (iRow iCX12_isKept_1 9 rfl) k12_253) ?_
              refine s_step (g_lcmp (iRow iCX12_isKept_1 10 rfl)) ?_
              refine s_if (g_if_eq (tgt := 285) (iRow iCX12_isKept_1 11 rfl) (by decide)) (fun _ => ?_) (fun _ => ?_)
              · refine s_step (g_iconst (iRow iCX12_isKept_5 11 rfl) kc_1) ?_
                refine s_step (g_goto (tgt := 290) (iRow iCX12_isKept_5 12 rfl) (by decide)) ?_
                exact s_retz (b := true) (iRow iCX12_isKept_5 14 rfl) rfl rfl
              · refine s_step (g_aload_n (iRow iCX12_isKept_1 12 rfl) rfl rfl) ?_
                refine s_step (g_getL (iRow iCX12_isKept_1 13 rfl) f12_175 ko_13) ?_
                refine s_step (g_ldc2 (iRow iCX12_isKept_1 14 rfl) k12_255) ?_
                refine s_step (g_lcmp (iRow iCX12_isKept_1 15 rfl)) ?_
                refine s_if (g_if_eq (tgt := 285) (iRow iCX12_isKept_1 16 rfl) (by decide)) (fun _ => ?_) (fun _ => ?_)
                · refine s_step (g_iconst (iRow iCX12_isKept_5 11 rfl) kc_1) ?_
                  refine s_step (g_goto (tgt := 290) (iRow iCX12_isKept_5 12 rfl) (by decide)) ?_
                  exact s_retz (b := true) (iRow iCX12_isKept_5 14 rfl) rfl rfl
                · refine s_step (g_aload_n (iRow iCX12_isKept_1 17 rfl) rfl rfl) ?_
                  refine s_step (g_getL (iRow iCX12_isKept_1 18 rfl) f12_175 ko_13) ?_
                  refine s_step (g_ldc2 (iRow iCX12_isKept_1 19 rfl) k12_257) ?_
                  refine s_step (g_lcmp (iRow iCX12_isKept_1 20 rfl)) ?_
                  refine s_if (g_if_eq (tgt := 285) (iRow iCX12_isKept_1 21 rfl) (by decide)) (fun _ => ?_) (fun _ => ?_)
                  · refine s_step (g_iconst (iRow iCX12_isKept_5 11 rfl) kc_1) ?_
                    refine s_step (g_goto (tgt := 290) (iRow iCX12_isKept_5 12 rfl) (by decide)) ?_
                    exact s_retz (b := true) (iRow iCX12_isKept_5 14 rfl) rfl rfl
                  · refine s_step (g_aload_n (iRow iCX12_isKept_1 22 rfl) rfl rfl) ?_
                    refine s_step (g_getL (iRow iCX12_isKept_1 23 rfl) f12_175 ko_13) ?_
                    refine s_step (g_ldc2 (iRow iCX12_isKept_2 0 rfl) k12_259) ?_
                    refine s_step (g_lcmp (iRow iCX12_isKept_2 1 rfl)) ?_
                    refine s_if (g_if_eq (tgt := 285) (iRow iCX12_isKept_2 2 rfl) (by decide)) (fun _ => ?_) (fun _ => ?_)
                    · refine s_step (g_iconst (iRow iCX12_isKept_5 11 rfl) kc_1) ?_
                      refine s_step (g_goto (tgt := 290) (iRow iCX12_isKept_5 12 rfl) (by decide)) ?_
                      exact s_retz (b := true) (iRow iCX12_isKept_5 14 rfl) rfl rfl
                    · refine s_step (g_aload_n (iRow iCX12_isKept_2 3 rfl) rfl rfl) ?_
                      refine s_step (g_getL (iRow iCX12_isKept_2 4 rfl) f12_175 ko_13) ?_
                      refine s_step (g_ldc2 (iRow iCX12_isKept_2 5 rfl) k12_261) ?_
                      refine s_step (g_lcmp (iRow iCX12_isKept_2 6 rfl)) ?_
                      refine s_if (g_if_eq (tgt := 285) (iRow iCX12_isKept_2 7 rfl) (by decide)) (fun _ => ?_) (fun _ => ?_)
                      · refine s_step (g_iconst (iRow iCX12_isKept_5 11 rfl) kc_1) ?_
                        refine s_step (g_goto (tgt := 290) (iRow iCX12_isKept_5 12 rfl) (by decide)) ?_
                        exact s_retz (b := true) (iRow iCX12_isKept_5 14 rfl) rfl rfl
                      · refine s_step (g_aload_n (iRow iCX12_isKept_2 8 rfl) rfl rfl) ?_
                        refine s_step (g_getL (iRow iCX12_isKept_2 9 rfl) f12_175 ko_13) ?_
                        refine s_step (g_ldc2 (iRow iCX12_isKept_2 10 rfl) k12_263) ?_
                        refine s_step (g_lcmp (iRow iCX12_isKept_2 11 rfl)) ?_
                        refine s_if (g_if_eq (tgt := 285) (iRow iCX12_isKept_2 12 rfl) (by decide)) (fun _ => ?_) (fun _ => ?_)
                        · refine s_step (g_iconst (iRow iCX12_isKept_5 11 rfl) kc_1) ?_
                          refine s_step (g_goto (tgt := 290) (iRow iCX12_isKept_5 12 rfl) (by decide)) ?_
                          exact s_retz (b := true) (iRow iCX12_isKept_5 14 rfl) rfl rfl
                        · refine s_step (g_aload_n (iRow iCX12_isKept_2 13 rfl) rfl rfl) ?_
                          refine s_step (g_getL (iRow iCX12_isKept_2 14 rfl) f12_175 ko_13) ?_
                          refine s_step (g_ldc2 (iRow iCX12_isKept_2 15 rfl) k12_265) ?_
                          refine s_step (g_lcmp (iRow iCX12_isKept_2 16 rfl)) ?_
                          refine s_if (g_if_eq (tgt := 285) (iRow iCX12_isKept_2 17 rfl) (by decide)) (fun _ => ?_) (fun _ => ?_)
                          · refine s_step (g_iconst (iRow iCX12_isKept_5 11 rfl) kc_1) ?_
                            refine s_step (g_goto (tgt := 290) (iRow iCX12_isKept_5 12 rfl) (by decide)) ?_
                            exact s_retz (b := true) (iRow iCX12_isKept_5 14 rfl) rfl rfl
                          · refine s_step (g_aload_n (iRow iCX12_isKept_2 18 rfl) rfl rfl) ?_
                            refine s_step (g_getL (iRow iCX12_isKept_2 19 rfl) f12_175 ko_13) ?_
                            refine s_step (g_ldc2 (iRow iCX12_isKept_2 20 rfl) k12_267) ?_
                            refine s_step (g_lcmp (iRow iCX12_isKept_2 21 rfl)) ?_
                            refine s_if (g_if_eq (tgt := 285) (iRow iCX12_isKept_2 22 rfl) (by decide)) (fun _ => ?_) (fun _ => ?_)
                            · refine s_step (g_iconst (iRow iCX12_isKept_5 11 rfl) kc_1) ?_
                              refine s_step (g_goto (tgt := 290) (iRow iCX12_isKept_5 12 rfl) (by decide)) ?_
                              exact s_retz (b := true) (iRow iCX12_isKept_5 14 rfl) rfl rfl
                            · refine s_step (g_aload_n (iRow iCX12_isKept_2 23 rfl) rfl rfl) ?_
                              refine s_step (g_getL (iRow iCX12_isKept_3 0 rfl) f12_175 ko_13) ?_
                              refine s_step (g_ldc2 (iRow iCX12_isKept_3 1 rfl) k12_269) ?_
                              refine s_step (g_lcmp (iRow iCX12_isKept_3 2 rfl)) ?_
                              refine s_if (g_if_eq (tgt := 285) (iRow iCX12_isKept_3 3 rfl) (by decide)) (fun _ => ?_) (fun _ => ?_)
                              · refine s_step (g_iconst (iRow iCX12_isKept_5 11 rfl) kc_1) ?_
                                refine s_step (g_goto (tgt := 290) (iRow iCX12_isKept_5 12 rfl) (by decide)) ?_
                                exact s_retz (b := true) (iRow iCX12_isKept_5 14 rfl) rfl rfl
                              · refine s_step (g_aload_n (iRow iCX12_isKept_3 4 rfl) rfl rfl) ?_
                                refine s_step (g_getL (iRow iCX12_isKept_3 5 rfl) f12_175 ko_13) ?_
                                refine s_step (g_ldc2 (iRow iCX12_isKept_3 6 rfl) k12_271) ?_
                                refine s_step (g_lcmp (iRow iCX12_isKept_3 7 rfl)) ?_
                                refine s_if (g_if_eq (tgt := 285) (iRow iCX12_isKept_3 8 rfl) (by decide)) (fun _ => ?_) (fun _ => ?_)
                                · refine s_step (g_iconst (iRow iCX12_isKept_5 11 rfl) kc_1) ?_
                                  refine s_step (g_goto (tgt := 290) (iRow iCX12_isKept_5 12 rfl) (by decide)) ?_
                                  exact s_retz (b := true) (iRow iCX12_isKept_5 14 rfl) rfl rfl
                                · refine s_step (g_aload_n (iRow iCX12_isKept_3 9 rfl) rfl rfl) ?_
                                  refine s_step (g_getL (iRow iCX12_isKept_3 10 rfl) f12_175 ko_13) ?_
                                  refine s_step (g_ldc2 (iRow iCX12_isKept_3 11 rfl) k12_273) ?_
                                  refine s_step (g_lcmp (iRow iCX12_isKept_3 12 rfl)) ?_
                                  refine s_if (g_if_eq (tgt := 285) (iRow iCX12_isKept_3 13 rfl) (by decide)) (fun _ => ?_) (fun _ => ?_)
                                  · refine s_step (g_iconst (iRow iCX12_isKept_5 11 rfl) kc_1) ?_
                                    refine s_step (g_goto (tgt := 290) (iRow iCX12_isKept_5 12 rfl) (by decide)) ?_
                                    exact s_retz (b := true) (iRow iCX12_isKept_5 14 rfl) rfl rfl
                                  · refine s_step (g_aload_n (iRow iCX12_isKept_3 14 rfl) rfl rfl) ?_
                                    refine s_step (g_getL (iRow iCX12_isKept_3 15 rfl) f12_175 ko_13) ?_
                                    refine s_step (g_ldc2 (iRow iCX12_isKept_3 16 rfl) k12_275) ?_
                                    refine s_step (g_lcmp (iRow iCX12_isKept_3 17 rfl)) ?_
                                    refine s_if (g_if_eq (tgt := 285) (iRow iCX12_isKept_3 18 rfl) (by decide)) (fun _ => ?_) (fun _ => ?_)
                                    · refine s_step (g_iconst (iRow iCX12_isKept_5 11 rfl) kc_1) ?_
                                      refine s_step (g_goto (tgt := 290) (iRow iCX12_isKept_5 12 rfl) (by decide)) ?_
                                      exact s_retz (b := true) (iRow iCX12_isKept_5 14 rfl) rfl rfl
                                    · refine s_step (g_aload_n (iRow iCX12_isKept_3 19 rfl) rfl rfl) ?_
                                      refine s_step (g_getL (iRow iCX12_isKept_3 20 rfl) f12_175 ko_13) ?_
                                      refine s_step (g_ldc2 (iRow iCX12_isKept_3 21 rfl) k12_277) ?_
                                      refine s_step (g_lcmp (iRow iCX12_isKept_3 22 rfl)) ?_
                                      refine s_if (g_if_eq (tgt := 285) (iRow iCX12_isKept_3 23 rfl) (by decide)) (fun _ => ?_) (fun _ => ?_)
                                      · refine s_step (g_iconst (iRow iCX12_isKept_5 11 rfl) kc_1) ?_
                                        refine s_step (g_goto (tgt := 290) (iRow iCX12_isKept_5 12 rfl) (by decide)) ?_
                                        exact s_retz (b := true) (iRow iCX12_isKept_5 14 rfl) rfl rfl
                                      · refine s_step (g_aload_n (iRow iCX12_isKept_4 0 rfl) rfl rfl) ?_
                                        refine s_step (g_getL (iRow iCX12_isKept_4 1 rfl) f12_175 ko_13) ?_
                                        refine s_step (g_ldc2 (iRow iCX12_isKept_4 2 rfl) k12_279) ?_
                                        refine s_step (g_lcmp (iRow iCX12_isKept_4 3 rfl)) ?_
                                        refine s_if (g_if_eq (tgt := 285) (iRow iCX12_isKept_4 4 rfl) (by decide)) (fun _ => ?_) (fun _ => ?_)
                                        · refine s_step (g_iconst (iRow iCX12_isKept_5 11 rfl) kc_1) ?_
                                          refine s_step (g_goto (tgt := 290) (iRow iCX12_isKept_5 12 rfl) (by decide)) ?_
                                          exact s_retz (b := true) (iRow iCX12_isKept_5 14 rfl) rfl rfl
                                        · refine s_step (g_aload_n (iRow iCX12_isKept_4 5 rfl) rfl rfl) ?_
                                          refine s_step (g_getL (iRow iCX12_isKept_4 6 rfl) f12_175 ko_13) ?_
                                          refine s_step (g_ldc2 (iRow iCX12_isKept_4 7 rfl) k12_281) ?_
                                          refine s_step (g_lcmp (iRow iCX12_isKept_4 8 rfl)) ?_
                                          refine s_if (g_if_eq (tgt := 285) (iRow iCX12_isKept_4 9 rfl) (by decide)) (fun _ => ?_) (fun _ => ?_)
                                          · refine s_step (g_iconst (iRow iCX12_isKept_5 11 rfl) kc_1) ?_
                                            refine s_step (g_goto (tgt := 290) (iRow iCX12_isKept_5 12 rfl) (by decide)) ?_
                                            exact s_retz (b := true) (iRow iCX12_isKept_5 14 rfl) rfl rfl
                                          · refine s_step (g_aload_n (iRow iCX12_isKept_4 10 rfl) rfl rfl) ?_
                                            refine s_step (g_getL (iRow iCX12_isKept_4 11 rfl) f12_175 ko_13) ?_
                                            refine s_step (g_ldc2 (iRow iCX12_isKept_4 12 rfl) k12_283) ?_
                                            refine s_step (g_lcmp (iRow iCX12_isKept_4 13 rfl)) ?_
                                            refine s_if (g_if_eq (tgt := 285) (iRow iCX12_isKept_4 14 rfl) (by decide)) (fun _ => ?_) (fun _ => ?_)
                                            · refine s_step (g_iconst (iRow iCX12_isKept_5 11 rfl) kc_1) ?_
                                              refine s_step (g_goto (tgt := 290) (iRow iCX12_isKept_5 12 rfl) (by decide)) ?_
                                              exact s_retz (b := true) (iRow iCX12_isKept_5 14 rfl) rfl rfl
                                            · refine s_step (g_aload_n (iRow iCX12_isKept_4 15 rfl) rfl rfl) ?_
                                              refine s_step (g_getL (iRow iCX12_isKept_4 16 rfl) f12_175 ko_13) ?_
                                              refine s_step (g_ldc2 (iRow iCX12_isKept_4 17 rfl) k12_285) ?_
                                              refine s_step (g_lcmp (iRow iCX12_isKept_4 18 rfl)) ?_
                                              refine s_if (g_if_eq (tgt := 285) (iRow iCX12_isKept_4 19 rfl) (by decide)) (fun _ => ?_) (fun _ => ?_)
                                              · refine s_step (g_iconst (iRow iCX12_isKept_5 11 rfl) kc_1) ?_
                                                refine s_step (g_goto (tgt := 290) (iRow iCX12_isKept_5 12 rfl) (by decide)) ?_
                                                exact s_retz (b := true) (iRow iCX12_isKept_5 14 rfl) rfl rfl
                                              · refine s_step (g_aload_n (iRow iCX12_isKept_4 20 rfl) rfl rfl) ?_
                                                refine s_step (g_getL (iRow iCX12_isKept_4 21 rfl) f12_175 ko_13) ?_
                                                refine s_step (g_ldc2 (iRow iCX12_isKept_4 22 rfl) k12_211) ?_
                                                refine s_step (g_lcmp (iRow iCX12_isKept_4 23 rfl)) ?_
                                                refine s_if (g_if_eq (tgt := 285) (iRow iCX12_isKept_5 0 rfl) (by decide)) (fun _ => ?_) (fun _ => ?_)
                                                · refine s_step (g_iconst (iRow iCX12_isKept_5 11 rfl) kc_1) ?_
                                                  refine s_step (g_goto (tgt := 290) (iRow iCX12_isKept_5 12 rfl) (by decide)) ?_
                                                  exact s_retz (b := true) (iRow iCX12_isKept_5 14 rfl) rfl rfl
                                                · refine s_step (g_aload_n (iRow iCX12_isKept_5 1 rfl) rfl rfl) ?_
                                                  refine s_step (g_getL (iRow iCX12_isKept_5 2 rfl) f12_175 ko_13) ?_
                                                  refine s_step (g_ldc2 (iRow iCX12_isKept_5 3 rfl) k12_230) ?_
                                                  refine s_step (g_lcmp (iRow iCX12_isKept_5 4 rfl)) ?_
                                                  refine s_if (g_if_eq (tgt := 285) (iRow iCX12_isKept_5 5 rfl) (by decide)) (fun _ => ?_) (fun _ => ?_)
                                                  · refine s_step (g_iconst (iRow iCX12_isKept_5 11 rfl) kc_1) ?_
                                                    refine s_step (g_goto (tgt := 290) (iRow iCX12_isKept_5 12 rfl) (by decide)) ?_
                                                    exact s_retz (b := true) (iRow iCX12_isKept_5 14 rfl) rfl rfl
                                                  · refine s_step (g_aload_n (iRow iCX12_isKept_5 6 rfl) rfl rfl) ?_
                                                    refine s_step (g_getL (iRow iCX12_isKept_5 7 rfl) f12_175 ko_13) ?_
                                                    refine s_step (g_ldc2 (iRow iCX12_isKept_5 8 rfl) k12_232) ?_
                                                    refine s_step (g_lcmp (iRow iCX12_isKept_5 9 rfl)) ?_
                                                    refine s_ifn (g_if_ne (tgt := 289) (iRow iCX12_isKept_5 10 rfl) (by decide)) (fun _ => ?_) (fun _ => ?_)
                                                    · refine s_step (g_iconst (iRow iCX12_isKept_5 11 rfl) kc_1) ?_
                                                      refine s_step (g_goto (tgt := 290) (iRow iCX12_isKept_5 12 rfl) (by decide)) ?_
                                                      exact s_retz (b := true) (iRow iCX12_isKept_5 14 rfl) rfl rfl
                                                    · refine s_step (g_iconst (iRow iCX12_isKept_5 13 rfl) kc_0) ?_
                                                      exact s_retz (b := false) (iRow iCX12_isKept_5 14 rfl) rfl rfl
  · refine s_step (g_iconst (iRow iCX12_isKept_0 4 rfl) kc_1) ?_
    exact s_retz (b := true) (iRow iCX12_isKept_0 5 rfl) rfl rfl
abbrev YX12_named_65 : mY := (RX12, "named", cX12_named, 6, (some .int), none)
set_option maxHeartbeats 400000 in
set_option maxRecDepth 20000 in
theorem t_X12_named_65 {G : mg} {F : Nat} {a2 : Int32} {a3 : Int32} {a4 : Int64} {M : mm} {x : Int32} {M' : mm} (d : Nat) (h : m_X12_named_65 F a2 a3 a4 M = some (x, M')) : CM G yX12_named cX12_named 6 (some .int) (d + 0) [vR 65 0, vI a2, vI a3, vL (a4)] M (some (vI x)) M' := by
  refine ct_i (ls := [some (vR 65 0), some (vI a2), some (vI a3), some (vL (a4)), none, none]) rfl rfl (Nat.le_of_ble_eq_true rfl) (fun Z => ?_) h
  show SW G (d + 0) YX12_named_65 Z 0 [some (vR 65 0), some (vI a2), some (vI a3), some (vL (a4)), none, none] [] M _ _
  unfold m_X12_named_65
  refine s_step (g_iload_n (iRow iCX12_named_0 0 rfl) rfl rfl) ?_
  refine s_step (g_istore (ls' := [some (vR 65 0), some (vI a2), some (vI a3), some (vL (a4)), none, some (vI a2)]) (iRow iCX12_named_0 1 rfl) (by decide) rfl) ?_
  refine s_lp (fun z => [some (vR 65 0), some (vI a2), some (vI a3), some (vL (a4)), none, some (vI z)]) (fun _ => M) (Sum.elim (fun z => LM G (d + 0) YX12_named_65 Z 20 [none, some (vI a2), none, none, none, some (vI z)] [] M) (fun z => LM G (d + 0) YX12_named_65 Z 31 [none, none, none, none, none, none] [] M)) rfl rfl ?_ ?_
  · rintro x1
    show SW G (d + 0) YX12_named_65 Z 3 [some (vR 65 0), some (vI a2), some (vI a3), some (vL (a4)), none, some (vI x1)] [] M (b_X12_named_65_1c F a2 a3 a4 M x1) _
    unfold b_X12_named_65_1c
    refine s_step (g_iload (iRow iCX12_named_0 2 rfl) rfl) ?_
    refine s_step (g_iload_n (iRow iCX12_named_0 3 rfl) rfl rfl) ?_
    refine s_step (g_iload_n (iRow iCX12_named_0 4 rfl) rfl rfl) ?_
    refine s_step (g_iadd (iRow iCX12_named_0 5 rfl)) ?_
    refine s_if (g_icmp_ge (tgt := 31) (iRow iCX12_named_0 6 rfl) (by decide)) (fun _ => ?_) (fun _ => ?_)
    · refine s_step (g_keep [false, false, false, false, false, false] rfl) ?_
      exact s_end (fun h => h)
    · refine s_step (g_aload_n (iRow iCX12_named_0 7 rfl) rfl rfl) ?_
      refine s_step (g_iload (iRow iCX12_named_0 8 rfl) rfl) ?_
      refine s_gi (fun h => g_lald (iRow iCX12_named_0 9 rfl) kn_65 ka_65 h) ?_
      refine s_step (g_lload_n (iRow iCX12_named_0 10 rfl) rfl rfl) ?_
      refine s_step (g_lcmp (iRow iCX12_named_0 11 rfl)) ?_
      refine s_ifn (g_if_ne (tgt := 25) (iRow iCX12_named_0 12 rfl) (by decide)) (fun _ => ?_) (fun _ => ?_)
      · refine s_step (g_keep [false, true, false, false, false, true] rfl) ?_
        exact s_end (fun h => h)
      · refine s_step (g_iincc (c := 1) (ls' := [some (vR 65 0), some (vI a2), some (vI a3), some (vL (a4)), none, some (vI (x1 + (1 : Int32)))]) (iRow iCX12_named_0 17 rfl) rfl kc_1 (by decide) rfl) ?_
        refine s_step (g_goto (tgt := 3) (iRow iCX12_named_0 18 rfl) (by decide)) ?_
        exact s_end (fun h => h)
  · intro z
    rcases z with z | z
    · generalize z = x2
      show SW G (d + 0) YX12_named_65 Z 20 [none, some (vI a2), none, none, none, some (vI x2)] [] M _ _
      try dsimp only [Sum.elim]
      refine s_step (g_iload (iRow iCX12_named_0 13 rfl) rfl) ?_
      refine s_step (g_iload_n (iRow iCX12_named_0 14 rfl) rfl rfl) ?_
      refine s_step (g_isub (iRow iCX12_named_0 15 rfl)) ?_
      exact s_reti (iRow iCX12_named_0 16 rfl) rfl
    · obtain ⟨⟩ := z
      show SW G (d + 0) YX12_named_65 Z 31 [none, none, none, none, none, none] [] M _ _
      try dsimp only [Sum.elim]
      refine s_step (g_iconst (iRow iCX12_named_0 19 rfl) kc_m1) ?_
      exact s_reti (iRow iCX12_named_0 20 rfl) rfl
abbrev YX12_personNamed : mY := (RX12, "personNamed", cX12_personNamed, 1, (some .int), none)
set_option maxHeartbeats 400000 in
set_option maxRecDepth 20000 in
theorem t_X12_personNamed {G : mg} {F : Nat} {M : mm} {x : Int32} {M' : mm} (d : Nat) (h : m_X12_personNamed F M = some (x, M')) : CM G yX12_personNamed cX12_personNamed 1 (some .int) (d + 1) [vR 13 0] M (some (vI x)) M' := by
  refine ct_i (ls := [some (vR 13 0)]) rfl rfl (Nat.le_of_ble_eq_true rfl) (fun Z => ?_) h
  show SW G (d + 1) YX12_personNamed Z 0 [some (vR 13 0)] [] M _ _
  unfold m_X12_personNamed
  refine s_step (g_aload_n (iRow iCX12_personNamed_0 0 rfl) rfl rfl) ?_
  refine s_step (g_getR (iRow iCX12_personNamed_0 1 rfl) f12_16 ko_13 (r_13_11 _ _)) ?_
  refine s_step (g_bipush (iRow iCX12_personNamed_0 2 rfl) kb_6) ?_
  refine s_step (g_aload_n (iRow iCX12_personNamed_0 3 rfl) rfl rfl) ?_
  refine s_step (g_getR (iRow iCX12_personNamed_0 4 rfl) f12_13 ko_13 (r_13_10 _ _)) ?_
  refine s_step (g_bipush (iRow iCX12_personNamed_0 5 rfl) kb_6) ?_
  refine s_gi (fun h => g_iald (iRow iCX12_personNamed_0 6 rfl) kn_64 ka_64 h) ?_
  refine s_step (g_aload_n (iRow iCX12_personNamed_0 7 rfl) rfl rfl) ?_
  refine s_step (g_getL (iRow iCX12_personNamed_0 8 rfl) f12_175 ko_13) ?_
  refine s_cl (sf := fun x => vI x :: []) (fun _ _ h => h_S (As := [_, _, _, _]) (iRow iCX12_personNamed_0 9 rfl) l12_287 iX12_named rfl rfl (t_X12_named_65 (d + 0) h) rfl (by omega) (by decide) (Nat.le_of_ble_eq_true rfl)) (fun x2 M1 => ?_)
  exact s_reti (iRow iCX12_personNamed_0 10 rfl) rfl
abbrev YX12_named_66 : mY := (RX12, "named", cX12_named, 6, (some .int), none)
set_option maxHeartbeats 400000 in
set_option maxRecDepth 20000 in
theorem t_X12_named_66 {G : mg} {F : Nat} {a2 : Int32} {a3 : Int32} {a4 : Int64} {M : mm} {x : Int32} {M' : mm} (d : Nat) (h : m_X12_named_66 F a2 a3 a4 M = some (x, M')) : CM G yX12_named cX12_named 6 (some .int) (d + 0) [vR 66 0, vI a2, vI a3, vL (a4)] M (some (vI x)) M' := by
  refine ct_i (ls := [some (vR 66 0), some (vI a2), some (vI a3), some (vL (a4)), none, none]) rfl rfl (Nat.le_of_ble_eq_true rfl) (fun Z => ?_) h
  show SW G (d + 0) YX12_named_66 Z 0 [some (vR 66 0), some (vI a2), some (vI a3), some (vL (a4)), none, none] [] M _ _
  unfold m_X12_named_66
  refine s_step (g_iload_n (iRow iCX12_named_0 0 rfl) rfl rfl) ?_
  refine s_step (g_istore (ls' := [some (vR 66 0), some (vI a2), some (vI a3), some (vL (a4)), none, some (vI a2)]) (iRow iCX12_named_0 1 rfl) (by decide) rfl) ?_
  refine s_lp (fun z => [some (vR 66 0), some (vI a2), some (vI a3), some (vL (a4)), none, some (vI z)]) (fun _ => M) (Sum.elim (fun z => LM G (d + 0) YX12_named_66 Z 20 [none, some (vI a2), none, none, none, some (vI z)] [] M) (fun z => LM G (d + 0) YX12_named_66 Z 31 [none, none, none, none, none, none] [] M)) rfl rfl ?_ ?_
  · rintro x1
    show SW G (d + 0) YX12_named_66 Z 3 [some (vR 66 0), some (vI a2), some (vI a3), some (vL (a4)), none, some (vI x1)] [] M (b_X12_named_66_1c F a2 a3 a4 M x1) _
    unfold b_X12_named_66_1c
    refine s_step (g_iload (iRow iCX12_named_0 2 rfl) rfl) ?_
    refine s_step (g_iload_n (iRow iCX12_named_0 3 rfl) rfl rfl) ?_
    refine s_step (g_iload_n (iRow iCX12_named_0 4 rfl) rfl rfl) ?_
    refine s_step (g_iadd (iRow iCX12_named_0 5 rfl)) ?_
    refine s_if (g_icmp_ge (tgt := 31) (iRow iCX12_named_0 6 rfl) (by decide)) (fun _ => ?_) (fun _ => ?_)
    · refine s_step (g_keep [false, false, false, false, false, false] rfl) ?_
      exact s_end (fun h => h)
    · refine s_step (g_aload_n (iRow iCX12_named_0 7 rfl) rfl rfl) ?_
      refine s_step (g_iload (iRow iCX12_named_0 8 rfl) rfl) ?_
      refine s_gi (fun h => g_lald (iRow iCX12_named_0 9 rfl) kn_66 ka_66 h) ?_
      refine s_step (g_lload_n (iRow iCX12_named_0 10 rfl) rfl rfl) ?_
      refine s_step (g_lcmp (iRow iCX12_named_0 11 rfl)) ?_
      refine s_ifn (g_if_ne (tgt := 25) (iRow iCX12_named_0 12 rfl) (by decide)) (fun _ => ?_) (fun _ => ?_)
      · refine s_step (g_keep [false, true, false, false, false, true] rfl) ?_
        exact s_end (fun h => h)
      · refine s_step (g_iincc (c := 1) (ls' := [some (vR 66 0), some (vI a2), some (vI a3), some (vL (a4)), none, some (vI (x1 + (1 : Int32)))]) (iRow iCX12_named_0 17 rfl) rfl kc_1 (by decide) rfl) ?_
        refine s_step (g_goto (tgt := 3) (iRow iCX12_named_0 18 rfl) (by decide)) ?_
        exact s_end (fun h => h)
  · intro z
    rcases z with z | z
    · generalize z = x2
      show SW G (d + 0) YX12_named_66 Z 20 [none, some (vI a2), none, none, none, some (vI x2)] [] M _ _
      try dsimp only [Sum.elim]
      refine s_step (g_iload (iRow iCX12_named_0 13 rfl) rfl) ?_
      refine s_step (g_iload_n (iRow iCX12_named_0 14 rfl) rfl rfl) ?_
      refine s_step (g_isub (iRow iCX12_named_0 15 rfl)) ?_
      exact s_reti (iRow iCX12_named_0 16 rfl) rfl
    · obtain ⟨⟩ := z
      show SW G (d + 0) YX12_named_66 Z 31 [none, none, none, none, none, none] [] M _ _
      try dsimp only [Sum.elim]
      refine s_step (g_iconst (iRow iCX12_named_0 19 rfl) kc_m1) ?_
      exact s_reti (iRow iCX12_named_0 20 rfl) rfl
abbrev YX12_oathNamed : mY := (RX12, "oathNamed", cX12_oathNamed, 2, (some .int), none)
set_option maxHeartbeats 400000 in
set_option maxRecDepth 20000 in
theorem t_X12_oathNamed {G : mg} {F : Nat} {a1 : Int32} {M : mm} {x : Int32} {M' : mm} (d : Nat) (h : m_X12_oathNamed F a1 M = some (x, M')) : CM G yX12_oathNamed cX12_oathNamed 2 (some .int) (d + 1) [vR 13 0, vI a1] M (some (vI x)) M' := by
  refine ct_i (ls := [some (vR 13 0), some (vI a1)]) rfl rfl (Nat.le_of_ble_eq_true rfl) (fun Z => ?_) h
  show SW G (d + 1) YX12_oathNamed Z 0 [some (vR 13 0), some (vI a1)] [] M _ _
  unfold m_X12_oathNamed
  refine s_step (g_aload_n (iRow iCX12_oathNamed_0 0 rfl) rfl rfl) ?_
  refine s_step (g_getR (iRow iCX12_oathNamed_0 1 rfl) f12_20 ko_13 (r_13_12 _ _)) ?_
  refine s_step (g_bipush (iRow iCX12_oathNamed_0 2 rfl) kb_10) ?_
  refine s_step (g_iload_n (iRow iCX12_oathNamed_0 3 rfl) rfl rfl) ?_
  refine s_step (g_imul (iRow iCX12_oathNamed_0 4 rfl)) ?_
  refine s_step (g_aload_n (iRow iCX12_oathNamed_0 5 rfl) rfl rfl) ?_
  refine s_step (g_getR (iRow iCX12_oathNamed_0 6 rfl) f12_13 ko_13 (r_13_10 _ _)) ?_
  refine s_step (g_bipush (iRow iCX12_oathNamed_0 7 rfl) kb_6) ?_
  refine s_step (g_iload_n (iRow iCX12_oathNamed_0 8 rfl) rfl rfl) ?_
  refine s_step (g_imul (iRow iCX12_oathNamed_0 9 rfl)) ?_
  refine s_step (g_iconst (iRow iCX12_oathNamed_0 10 rfl) kc_1) ?_
  refine s_step (g_iadd (iRow iCX12_oathNamed_0 11 rfl)) ?_
  refine s_gi (fun h => g_iald (iRow iCX12_oathNamed_0 12 rfl) kn_64 ka_64 h) ?_
  refine s_step (g_aload_n (iRow iCX12_oathNamed_0 13 rfl) rfl rfl) ?_
  refine s_step (g_getL (iRow iCX12_oathNamed_0 14 rfl) f12_175 ko_13) ?_
  refine s_cl (sf := fun x => vI x :: []) (fun _ _ h => h_S (As := [_, _, _, _]) (iRow iCX12_oathNamed_0 15 rfl) l12_287 iX12_named rfl rfl (t_X12_named_66 (d + 0) h) rfl (by omega) (by decide) (Nat.le_of_ble_eq_true rfl)) (fun x2 M1 => ?_)
  exact s_reti (iRow iCX12_oathNamed_0 16 rfl) rfl
abbrev YX12_named_67 : mY := (RX12, "named", cX12_named, 6, (some .int), none)
set_option maxHeartbeats 400000 in
set_option maxRecDepth 20000 in
theorem t_X12_named_67 {G : mg} {F : Nat} {a2 : Int32} {a3 : Int32} {a4 : Int64} {M : mm} {x : Int32} {M' : mm} (d : Nat) (h : m_X12_named_67 F a2 a3 a4 M = some (x, M')) : CM G yX12_named cX12_named 6 (some .int) (d + 0) [vR 67 0, vI a2, vI a3, vL (a4)] M (some (vI x)) M' := by
  refine ct_i (ls := [some (vR 67 0), some (vI a2), some (vI a3), some (vL (a4)), none, none]) rfl rfl (Nat.le_of_ble_eq_true rfl) (fun Z => ?_) h
  show SW G (d + 0) YX12_named_67 Z 0 [some (vR 67 0), some (vI a2), some (vI a3), some (vL (a4)), none, none] [] M _ _
  unfold m_X12_named_67
  refine s_step (g_iload_n (iRow iCX12_named_0 0 rfl) rfl rfl) ?_
  refine s_step (g_istore (ls' := [some (vR 67 0), some (vI a2), some (vI a3), some (vL (a4)), none, some (vI a2)]) (iRow iCX12_named_0 1 rfl) (by decide) rfl) ?_
  refine s_lp (fun z => [some (vR 67 0), some (vI a2), some (vI a3), some (vL (a4)), none, some (vI z)]) (fun _ => M) (Sum.elim (fun z => LM G (d + 0) YX12_named_67 Z 20 [none, some (vI a2), none, none, none, some (vI z)] [] M) (fun z => LM G (d + 0) YX12_named_67 Z 31 [none, none, none, none, none, none] [] M)) rfl rfl ?_ ?_
  · rintro x1
    show SW G (d + 0) YX12_named_67 Z 3 [some (vR 67 0), some (vI a2), some (vI a3), some (vL (a4)), none, some (vI x1)] [] M (b_X12_named_67_1c F a2 a3 a4 M x1) _
    unfold b_X12_named_67_1c
    refine s_step (g_iload (iRow iCX12_named_0 2 rfl) rfl) ?_
    refine s_step (g_iload_n (iRow iCX12_named_0 3 rfl) rfl rfl) ?_
    refine s_step (g_iload_n (iRow iCX12_named_0 4 rfl) rfl rfl) ?_
    refine s_step (g_iadd (iRow iCX12_named_0 5 rfl)) ?_
    refine s_if (g_icmp_ge (tgt := 31) (iRow iCX12_named_0 6 rfl) (by decide)) (fun _ => ?_) (fun _ => ?_)
    · refine s_step (g_keep [false, false, false, false, false, false] rfl) ?_
      exact s_end (fun h => h)
    · refine s_step (g_aload_n (iRow iCX12_named_0 7 rfl) rfl rfl) ?_
      refine s_step (g_iload (iRow iCX12_named_0 8 rfl) rfl) ?_
      refine s_gi (fun h => g_lald (iRow iCX12_named_0 9 rfl) kn_67 ka_67 h) ?_
      refine s_step (g_lload_n (iRow iCX12_named_0 10 rfl) rfl rfl) ?_
      refine s_step (g_lcmp (iRow iCX12_named_0 11 rfl)) ?_
      refine s_ifn (g_if_ne (tgt := 25) (iRow iCX12_named_0 12 rfl) (by decide)) (fun _ => ?_) (fun _ => ?_)
      · refine s_step (g_keep [false, true, false, false, false, true] rfl) ?_
        exact s_end (fun h => h)
      · refine s_step (g_iincc (c := 1) (ls' := [some (vR 67 0), some (vI a2), some (vI a3), some (vL (a4)), none, some (vI (x1 + (1 : Int32)))]) (iRow iCX12_named_0 17 rfl) rfl kc_1 (by decide) rfl) ?_
        refine s_step (g_goto (tgt := 3) (iRow iCX12_named_0 18 rfl) (by decide)) ?_
        exact s_end (fun h => h)
  · intro z
    rcases z with z | z
    · generalize z = x2
      show SW G (d + 0) YX12_named_67 Z 20 [none, some (vI a2), none, none, none, some (vI x2)] [] M _ _
      try dsimp only [Sum.elim]
      refine s_step (g_iload (iRow iCX12_named_0 13 rfl) rfl) ?_
      refine s_step (g_iload_n (iRow iCX12_named_0 14 rfl) rfl rfl) ?_
      refine s_step (g_isub (iRow iCX12_named_0 15 rfl)) ?_
      exact s_reti (iRow iCX12_named_0 16 rfl) rfl
    · obtain ⟨⟩ := z
      show SW G (d + 0) YX12_named_67 Z 31 [none, none, none, none, none, none] [] M _ _
      try dsimp only [Sum.elim]
      refine s_step (g_iconst (iRow iCX12_named_0 19 rfl) kc_m1) ?_
      exact s_reti (iRow iCX12_named_0 20 rfl) rfl
abbrev YX12_stoneNamed : mY := (RX12, "stoneNamed", cX12_stoneNamed, 2, (some .int), none)
set_option maxHeartbeats 400000 in
set_option maxRecDepth 20000 in
theorem t_X12_stoneNamed {G : mg} {F : Nat} {a1 : Int32} {M : mm} {x : Int32} {M' : mm} (d : Nat) (h : m_X12_stoneNamed F a1 M = some (x, M')) : CM G yX12_stoneNamed cX12_stoneNamed 2 (some .int) (d + 1) [vR 13 0, vI a1] M (some (vI x)) M' := by
  refine ct_i (ls := [some (vR 13 0), some (vI a1)]) rfl rfl (Nat.le_of_ble_eq_true rfl) (fun Z => ?_) h
  show SW G (d + 1) YX12_stoneNamed Z 0 [some (vR 13 0), some (vI a1)] [] M _ _
  unfold m_X12_stoneNamed
  refine s_step (g_aload_n (iRow iCX12_stoneNamed_0 0 rfl) rfl rfl) ?_
  refine s_step (g_getR (iRow iCX12_stoneNamed_0 1 rfl) f12_23 ko_13 (r_13_13 _ _)) ?_
  refine s_step (g_bipush (iRow iCX12_stoneNamed_0 2 rfl) kb_10) ?_
  refine s_step (g_iload_n (iRow iCX12_stoneNamed_0 3 rfl) rfl rfl) ?_
  refine s_step (g_imul (iRow iCX12_stoneNamed_0 4 rfl)) ?_
  refine s_step (g_aload_n (iRow iCX12_stoneNamed_0 5 rfl) rfl rfl) ?_
  refine s_step (g_getR (iRow iCX12_stoneNamed_0 6 rfl) f12_13 ko_13 (r_13_10 _ _)) ?_
  refine s_step (g_bipush (iRow iCX12_stoneNamed_0 7 rfl) kb_6) ?_
  refine s_step (g_iload_n (iRow iCX12_stoneNamed_0 8 rfl) rfl rfl) ?_
  refine s_step (g_imul (iRow iCX12_stoneNamed_0 9 rfl)) ?_
  refine s_step (g_iconst (iRow iCX12_stoneNamed_0 10 rfl) kc_2) ?_
  refine s_step (g_iadd (iRow iCX12_stoneNamed_0 11 rfl)) ?_
  refine s_gi (fun h => g_iald (iRow iCX12_stoneNamed_0 12 rfl) kn_64 ka_64 h) ?_
  refine s_step (g_aload_n (iRow iCX12_stoneNamed_0 13 rfl) rfl rfl) ?_
  refine s_step (g_getL (iRow iCX12_stoneNamed_0 14 rfl) f12_175 ko_13) ?_
  refine s_cl (sf := fun x => vI x :: []) (fun _ _ h => h_S (As := [_, _, _, _]) (iRow iCX12_stoneNamed_0 15 rfl) l12_287 iX12_named rfl rfl (t_X12_named_67 (d + 0) h) rfl (by omega) (by decide) (Nat.le_of_ble_eq_true rfl)) (fun x2 M1 => ?_)
  exact s_reti (iRow iCX12_stoneNamed_0 16 rfl) rfl
abbrev YX12_needsNumber : mY := (RX12, "needsNumber", cX12_needsNumber, 3, (some .boolean), none)
set_option maxHeartbeats 400000 in
set_option maxRecDepth 20000 in
theorem t_X12_needsNumber {G : mg} {F : Nat} {a1 : Int32} {a2 : Int32} {M : mm} {x : Bool} {M' : mm} (d : Nat) (h : m_X12_needsNumber F a1 a2 M = some (x, M')) : CM G yX12_needsNumber cX12_needsNumber 3 (some .boolean) (d + 2) [vR 13 0, vI a1, vI a2] M (some (vI (bI x))) M' := by
  refine ct_z (ls := [some (vR 13 0), some (vI a1), some (vI a2)]) rfl rfl (Nat.le_of_ble_eq_true rfl) (fun Z => ?_) h
  show SW G (d + 2) YX12_needsNumber Z 0 [some (vR 13 0), some (vI a1), some (vI a2)] [] M _ _
  unfold m_X12_needsNumber
  refine s_step (g_aload_n (iRow iCX12_needsNumber_0 0 rfl) rfl rfl) ?_
  refine s_step (g_getI (iRow iCX12_needsNumber_0 1 rfl) f12_182 ko_13) ?_
  refine s_step (g_iconst (iRow iCX12_needsNumber_0 2 rfl) kc_2) ?_
  refine s_if (g_icmp_eq (tgt := 14) (iRow iCX12_needsNumber_0 3 rfl) (by decide)) (fun _ => ?_) (fun _ => ?_)
  · refine s_step (g_aload_n (iRow iCX12_needsNumber_0 8 rfl) rfl rfl) ?_
    refine s_step (g_getI (iRow iCX12_needsNumber_0 9 rfl) f12_179 ko_13) ?_
    refine s_step (g_iload_n (iRow iCX12_needsNumber_0 10 rfl) rfl rfl) ?_
    refine s_step (g_iload_n (iRow iCX12_needsNumber_0 11 rfl) rfl rfl) ?_
    refine s_cb (sf := fun b => vI (bI b) :: []) (fun _ _ h => h_S (As := [_, _, _]) (iRow iCX12_needsNumber_0 12 rfl) l12_291 iX12_within rfl rfl (t_X12_within (d + 1) h) rfl (by omega) (by decide) (Nat.le_of_ble_eq_true rfl)) (fun b2 M1 => ?_)
    refine s_ifneb (g_if_ne (tgt := 32) (iRow iCX12_needsNumber_0 13 rfl) (by decide)) (fun _ => ?_) (fun _ => ?_)
    · refine s_step (g_aload_n (iRow iCX12_needsNumber_0 18 rfl) rfl rfl) ?_
      refine s_step (g_aload_n (iRow iCX12_needsNumber_0 19 rfl) rfl rfl) ?_
      refine s_step (g_getI (iRow iCX12_needsNumber_0 20 rfl) f12_179 ko_13) ?_
      refine s_step (g_putI (iRow iCX12_needsNumber_0 21 rfl) f12_295 (Or.inl rfl) ko_13) ?_
      refine s_nmM (fun M3 => ?_)
      refine s_step (g_aload_n (iRow iCX12_needsNumber_0 22 rfl) rfl rfl) ?_
      refine s_cv (stA := []) (fun _ h => h_V (As := []) (iRow iCX12_needsNumber_0 23 rfl) l12_227 iX12_nextToken ko_13 rfl rfl rfl rfl (t_X12_nextToken (d + 0) h) rfl (by omega) (by decide) (Nat.le_of_ble_eq_true rfl)) (fun M4 => ?_)
      refine s_step (g_iconst (iRow iCX12_needsNumber_1 0 rfl) kc_1) ?_
      exact s_retz (b := true) (iRow iCX12_needsNumber_1 1 rfl) rfl rfl
    · refine s_step (g_aload_n (iRow iCX12_needsNumber_0 14 rfl) rfl rfl) ?_
      refine s_step (g_iconst (iRow iCX12_needsNumber_0 15 rfl) kc_4) ?_
      refine s_cb (sf := fun b => vI (bI b) :: []) (fun _ _ h => h_V (As := [_]) (iRow iCX12_needsNumber_0 16 rfl) l12_221 iX12_fails ko_13 rfl rfl rfl rfl (t_X12_fails (d + 1) h) rfl (by omega) (by decide) (Nat.le_of_ble_eq_true rfl)) (fun b6 M5 => ?_)
      exact s_retz (iRow iCX12_needsNumber_0 17 rfl) rfl rfl
  · refine s_step (g_aload_n (iRow iCX12_needsNumber_0 4 rfl) rfl rfl) ?_
    refine s_step (g_iconst (iRow iCX12_needsNumber_0 5 rfl) kc_1) ?_
    refine s_cb (sf := fun b => vI (bI b) :: []) (fun _ _ h => h_V (As := [_]) (iRow iCX12_needsNumber_0 6 rfl) l12_221 iX12_fails ko_13 rfl rfl rfl rfl (t_X12_fails (d + 1) h) rfl (by omega) (by decide) (Nat.le_of_ble_eq_true rfl)) (fun b8 M7 => ?_)
    exact s_retz (iRow iCX12_needsNumber_0 7 rfl) rfl rfl
abbrev YX12_needsWord : mY := (RX12, "needsWord", cX12_needsWord, 3, (some .boolean), none)
set_option maxHeartbeats 400000 in
set_option maxRecDepth 20000 in
theorem t_X12_needsWord {G : mg} {F : Nat} {a1 : Int64} {M : mm} {x : Bool} {M' : mm} (d : Nat) (h : m_X12_needsWord F a1 M = some (x, M')) : CM G yX12_needsWord cX12_needsWord 3 (some .boolean) (d + 2) [vR 13 0, vL (a1)] M (some (vI (bI x))) M' := by
  refine ct_z (ls := [some (vR 13 0), some (vL (a1)), none]) rfl rfl (Nat.le_of_ble_eq_true rfl) (fun Z => ?_) h
  show SW G (d + 2) YX12_needsWord Z 0 [some (vR 13 0), some (vL (a1)), none] [] M _ _
  unfold m_X12_needsWord
  refine s_step (g_aload_n (iRow iCX12_needsWord_0 0 rfl) rfl rfl) ?_
  refine s_step (g_lload_n (iRow iCX12_needsWord_0 1 rfl) rfl rfl) ?_
  refine s_cb (sf := fun b => vI (bI b) :: []) (fun _ _ h => h_V (As := [_]) (iRow iCX12_needsWord_0 2 rfl) l12_213 iX12_isWord ko_13 rfl rfl rfl rfl (t_X12_isWord (d + 1) h) rfl (by omega) (by decide) (Nat.le_of_ble_eq_true rfl)) (fun b2 M1 => ?_)
  refine s_ifneb (g_if_ne (tgt := 14) (iRow iCX12_needsWord_0 3 rfl) (by decide)) (fun _ => ?_) (fun _ => ?_)
  · refine s_step (g_aload_n (iRow iCX12_needsWord_0 8 rfl) rfl rfl) ?_
    refine s_cv (stA := []) (fun _ h => h_V (As := []) (iRow iCX12_needsWord_0 9 rfl) l12_227 iX12_nextToken ko_13 rfl rfl rfl rfl (t_X12_nextToken (d + 0) h) rfl (by omega) (by decide) (Nat.le_of_ble_eq_true rfl)) (fun M3 => ?_)
    refine s_step (g_iconst (iRow iCX12_needsWord_0 10 rfl) kc_1) ?_
    exact s_retz (b := true) (iRow iCX12_needsWord_0 11 rfl) rfl rfl
  · refine s_step (g_aload_n (iRow iCX12_needsWord_0 4 rfl) rfl rfl) ?_
    refine s_step (g_iconst (iRow iCX12_needsWord_0 5 rfl) kc_1) ?_
    refine s_cb (sf := fun b => vI (bI b) :: []) (fun _ _ h => h_V (As := [_]) (iRow iCX12_needsWord_0 6 rfl) l12_221 iX12_fails ko_13 rfl rfl rfl rfl (t_X12_fails (d + 1) h) rfl (by omega) (by decide) (Nat.le_of_ble_eq_true rfl)) (fun b5 M4 => ?_)
    exact s_retz (iRow iCX12_needsWord_0 7 rfl) rfl rfl
abbrev YX12_needsBoth : mY := (RX12, "needsBoth", cX12_needsBoth, 5, (some .boolean), none)
set_option maxHeartbeats 400000 in
set_option maxRecDepth 20000 in
theorem t_X12_needsBoth {G : mg} {F : Nat} {a1 : Int64} {a2 : Int32} {a3 : Int32} {M : mm} {x : Bool} {M' : mm} (d : Nat) (h : m_X12_needsBoth F a1 a2 a3 M = some (x, M')) : CM G yX12_needsBoth cX12_needsBoth 5 (some .boolean) (d + 3) [vR 13 0, vL (a1), vI a2, vI a3] M (some (vI (bI x))) M' := by
  refine ct_z (ls := [some (vR 13 0), some (vL (a1)), none, some (vI a2), some (vI a3)]) rfl rfl (Nat.le_of_ble_eq_true rfl) (fun Z => ?_) h
  show SW G (d + 3) YX12_needsBoth Z 0 [some (vR 13 0), some (vL (a1)), none, some (vI a2), some (vI a3)] [] M _ _
  unfold m_X12_needsBoth
  refine s_step (g_aload_n (iRow iCX12_needsBoth_0 0 rfl) rfl rfl) ?_
  refine s_step (g_lload_n (iRow iCX12_needsBoth_0 1 rfl) rfl rfl) ?_
  refine s_cb (sf := fun b => vI (bI b) :: []) (fun _ _ h => h_V (As := [_]) (iRow iCX12_needsBoth_0 2 rfl) l12_298 iX12_needsWord ko_13 rfl rfl rfl rfl (t_X12_needsWord (d + 0) h) rfl (by omega) (by decide) (Nat.le_of_ble_eq_true rfl)) (fun b2 M1 => ?_)
  refine s_ifeqb (g_if_eq (tgt := 22) (iRow iCX12_needsBoth_0 3 rfl) (by decide)) (fun _ => ?_) (fun _ => ?_)
  · refine s_step (g_aload_n (iRow iCX12_needsBoth_0 4 rfl) rfl rfl) ?_
    refine s_step (g_iload_n (iRow iCX12_needsBoth_0 5 rfl) rfl rfl) ?_
    refine s_step (g_iload (iRow iCX12_needsBoth_0 6 rfl) rfl) ?_
    refine s_cb (sf := fun b => vI (bI b) :: []) (fun _ _ h => h_V (As := [_, _]) (iRow iCX12_needsBoth_0 7 rfl) l12_301 iX12_needsNumber ko_13 rfl rfl rfl rfl (t_X12_needsNumber (d + 0) h) rfl (by omega) (by decide) (Nat.le_of_ble_eq_true rfl)) (fun b4 M3 => ?_)
    refine s_ifeqb (g_if_eq (tgt := 22) (iRow iCX12_needsBoth_0 8 rfl) (by decide)) (fun _ => ?_) (fun _ => ?_)
    · refine s_step (g_iconst (iRow iCX12_needsBoth_0 9 rfl) kc_1) ?_
      refine s_step (g_goto (tgt := 23) (iRow iCX12_needsBoth_0 10 rfl) (by decide)) ?_
      exact s_retz (b := true) (iRow iCX12_needsBoth_0 12 rfl) rfl rfl
    · refine s_step (g_iconst (iRow iCX12_needsBoth_0 11 rfl) kc_0) ?_
      exact s_retz (b := false) (iRow iCX12_needsBoth_0 12 rfl) rfl rfl
  · refine s_step (g_iconst (iRow iCX12_needsBoth_0 11 rfl) kc_0) ?_
    exact s_retz (b := false) (iRow iCX12_needsBoth_0 12 rfl) rfl rfl
abbrev YX12_closes : mY := (RX12, "closes", cX12_closes, 1, (some .boolean), none)
set_option maxHeartbeats 400000 in
set_option maxRecDepth 20000 in
theorem t_X12_closes {G : mg} {F : Nat} {M : mm} {x : Bool} {M' : mm} (d : Nat) (h : m_X12_closes F M = some (x, M')) : CM G yX12_closes cX12_closes 1 (some .boolean) (d + 2) [vR 13 0] M (some (vI (bI x))) M' := by
  refine ct_z (ls := [some (vR 13 0)]) rfl rfl (Nat.le_of_ble_eq_true rfl) (fun Z => ?_) h
  show SW G (d + 2) YX12_closes Z 0 [some (vR 13 0)] [] M _ _
  unfold m_X12_closes
  refine s_step (g_aload_n (iRow iCX12_closes_0 0 rfl) rfl rfl) ?_
  refine s_step (g_bipush (iRow iCX12_closes_0 1 rfl) kb_59) ?_
  refine s_cb (sf := fun b => vI (bI b) :: []) (fun _ _ h => h_V (As := [_]) (iRow iCX12_closes_0 2 rfl) l12_217 iX12_isSign ko_13 rfl rfl rfl rfl (t_X12_isSign (d + 1) h) rfl (by omega) (by decide) (Nat.le_of_ble_eq_true rfl)) (fun b2 M1 => ?_)
  refine s_ifneb (g_if_ne (tgt := 15) (iRow iCX12_closes_0 3 rfl) (by decide)) (fun _ => ?_) (fun _ => ?_)
  · refine s_step (g_aload_n (iRow iCX12_closes_0 8 rfl) rfl rfl) ?_
    refine s_cv (stA := []) (fun _ h => h_V (As := []) (iRow iCX12_closes_0 9 rfl) l12_227 iX12_nextToken ko_13 rfl rfl rfl rfl (t_X12_nextToken (d + 0) h) rfl (by omega) (by decide) (Nat.le_of_ble_eq_true rfl)) (fun M3 => ?_)
    refine s_step (g_iconst (iRow iCX12_closes_0 10 rfl) kc_1) ?_
    exact s_retz (b := true) (iRow iCX12_closes_0 11 rfl) rfl rfl
  · refine s_step (g_aload_n (iRow iCX12_closes_0 4 rfl) rfl rfl) ?_
    refine s_step (g_iconst (iRow iCX12_closes_0 5 rfl) kc_1) ?_
    refine s_cb (sf := fun b => vI (bI b) :: []) (fun _ _ h => h_V (As := [_]) (iRow iCX12_closes_0 6 rfl) l12_221 iX12_fails ko_13 rfl rfl rfl rfl (t_X12_fails (d + 1) h) rfl (by omega) (by decide) (Nat.le_of_ble_eq_true rfl)) (fun b5 M4 => ?_)
    exact s_retz (iRow iCX12_closes_0 7 rfl) rfl rfl
abbrev YX12_isNew : mY := (RX12, "isNew", cX12_isNew, 1, (some .boolean), none)
set_option maxHeartbeats 400000 in
set_option maxRecDepth 20000 in
theorem t_X12_isNew {G : mg} {F : Nat} {M : mm} {x : Bool} {M' : mm} (d : Nat) (h : m_X12_isNew F M = some (x, M')) : CM G yX12_isNew cX12_isNew 1 (some .boolean) (d + 2) [vR 13 0] M (some (vI (bI x))) M' := by
  refine ct_z (ls := [some (vR 13 0)]) rfl rfl (Nat.le_of_ble_eq_true rfl) (fun Z => ?_) h
  show SW G (d + 2) YX12_isNew Z 0 [some (vR 13 0)] [] M _ _
  unfold m_X12_isNew
  refine s_step (g_aload_n (iRow iCX12_isNew_0 0 rfl) rfl rfl) ?_
  refine s_cb (sf := fun b => vI (bI b) :: []) (fun _ _ h => h_V (As := []) (iRow iCX12_isNew_0 1 rfl) l12_305 iX12_isKept ko_13 rfl rfl rfl rfl (t_X12_isKept (d + 1) h) rfl (by omega) (by decide) (Nat.le_of_ble_eq_true rfl)) (fun b2 M1 => ?_)
  refine s_ifeqb (g_if_eq (tgt := 13) (iRow iCX12_isNew_0 2 rfl) (by decide)) (fun _ => ?_) (fun _ => ?_)
  · refine s_step (g_aload_n (iRow iCX12_isNew_0 3 rfl) rfl rfl) ?_
    refine s_step (g_iconst (iRow iCX12_isNew_0 4 rfl) kc_1) ?_
    refine s_cb (sf := fun b => vI (bI b) :: []) (fun _ _ h => h_V (As := [_]) (iRow iCX12_isNew_0 5 rfl) l12_221 iX12_fails ko_13 rfl rfl rfl rfl (t_X12_fails (d + 1) h) rfl (by omega) (by decide) (Nat.le_of_ble_eq_true rfl)) (fun b13 M12 => ?_)
    exact s_retz (iRow iCX12_isNew_0 6 rfl) rfl rfl
  · refine s_step (g_aload_n (iRow iCX12_isNew_0 7 rfl) rfl rfl) ?_
    refine s_cl (sf := fun x => vI x :: []) (fun _ _ h => h_V (As := []) (iRow iCX12_isNew_0 8 rfl) l12_309 iX12_personNamed ko_13 rfl rfl rfl rfl (t_X12_personNamed (d + 0) h) rfl (by omega) (by decide) (Nat.le_of_ble_eq_true rfl)) (fun x4 M3 => ?_)
    refine s_nj 36 (fun z => [some (vR 13 0)]) (fun z => []) (fun z => z) ?_ (fun j36 hj36 => ?_)
    · rintro M9
      show SW G (d + 2) YX12_isNew Z 36 [some (vR 13 0)] [] M9 _ _
      try dsimp only
      refine s_step (g_aload_n (iRow iCX12_isNew_0 18 rfl) rfl rfl) ?_
      refine s_step (g_iconst (iRow iCX12_isNew_0 19 rfl) kc_3) ?_
      refine s_cb (sf := fun b => vI (bI b) :: []) (fun _ _ h => h_V (As := [_]) (iRow iCX12_isNew_0 20 rfl) l12_221 iX12_fails ko_13 rfl rfl rfl rfl (t_X12_fails (d + 1) h) rfl (by omega) (by decide) (Nat.le_of_ble_eq_true rfl)) (fun b11 M10 => ?_)
      refine s_ifeqb (g_if_eq (tgt := 48) (iRow iCX12_isNew_0 21 rfl) (by decide)) (fun _ => ?_) (fun _ => ?_)
      · refine s_step (g_iconst (iRow iCX12_isNew_0 22 rfl) kc_1) ?_
        refine s_step (g_goto (tgt := 49) (iRow iCX12_isNew_0 23 rfl) (by decide)) ?_
        exact s_retz (b := true) (iRow iCX12_isNew_1 1 rfl) rfl rfl
      · refine s_step (g_iconst (iRow iCX12_isNew_1 0 rfl) kc_0) ?_
        exact s_retz (b := false) (iRow iCX12_isNew_1 1 rfl) rfl rfl
    · refine s_if (g_if_ge (tgt := 36) (iRow iCX12_isNew_0 9 rfl) (by decide)) (fun _ => ?_) (fun _ => ?_)
      · exact hj36 _
      · refine s_step (g_aload_n (iRow iCX12_isNew_0 10 rfl) rfl rfl) ?_
        refine s_step (g_iconst (iRow iCX12_isNew_0 11 rfl) kc_1) ?_
        refine s_cl (sf := fun x => vI x :: []) (fun _ _ h => h_V (As := [_]) (iRow iCX12_isNew_0 12 rfl) l12_312 iX12_oathNamed ko_13 rfl rfl rfl rfl (t_X12_oathNamed (d + 0) h) rfl (by omega) (by decide) (Nat.le_of_ble_eq_true rfl)) (fun x6 M5 => ?_)
        refine s_if (g_if_ge (tgt := 36) (iRow iCX12_isNew_0 13 rfl) (by decide)) (fun _ => ?_) (fun _ => ?_)
        · exact hj36 _
        · refine s_step (g_aload_n (iRow iCX12_isNew_0 14 rfl) rfl rfl) ?_
          refine s_step (g_iconst (iRow iCX12_isNew_0 15 rfl) kc_1) ?_
          refine s_cl (sf := fun x => vI x :: []) (fun _ _ h => h_V (As := [_]) (iRow iCX12_isNew_0 16 rfl) l12_315 iX12_stoneNamed ko_13 rfl rfl rfl rfl (t_X12_stoneNamed (d + 0) h) rfl (by omega) (by decide) (Nat.le_of_ble_eq_true rfl)) (fun x8 M7 => ?_)
          refine s_if (g_if_lt (tgt := 44) (iRow iCX12_isNew_0 17 rfl) (by decide)) (fun _ => ?_) (fun _ => ?_)
          · refine s_step (g_iconst (iRow iCX12_isNew_0 22 rfl) kc_1) ?_
            refine s_step (g_goto (tgt := 49) (iRow iCX12_isNew_0 23 rfl) (by decide)) ?_
            exact s_retz (b := true) (iRow iCX12_isNew_1 1 rfl) rfl rfl
          · exact hj36 _
abbrev YX12_needsOath : mY := (RX12, "needsOath", cX12_needsOath, 2, (some .boolean), none)
set_option maxHeartbeats 400000 in
set_option maxRecDepth 20000 in
theorem t_X12_needsOath {G : mg} {F : Nat} {a1 : Int32} {M : mm} {x : Bool} {M' : mm} (d : Nat) (h : m_X12_needsOath F a1 M = some (x, M')) : CM G yX12_needsOath cX12_needsOath 2 (some .boolean) (d + 2) [vR 13 0, vI a1] M (some (vI (bI x))) M' := by
  refine ct_z (ls := [some (vR 13 0), some (vI a1)]) rfl rfl (Nat.le_of_ble_eq_true rfl) (fun Z => ?_) h
  show SW G (d + 2) YX12_needsOath Z 0 [some (vR 13 0), some (vI a1)] [] M _ _
  unfold m_X12_needsOath
  refine s_step (g_aload_n (iRow iCX12_needsOath_0 0 rfl) rfl rfl) ?_
  refine s_cb (sf := fun b => vI (bI b) :: []) (fun _ _ h => h_V (As := []) (iRow iCX12_needsOath_0 1 rfl) l12_305 iX12_isKept ko_13 rfl rfl rfl rfl (t_X12_isKept (d + 1) h) rfl (by omega) (by decide) (Nat.le_of_ble_eq_true rfl)) (fun b2 M1 => ?_)
  refine s_ifeqb (g_if_eq (tgt := 13) (iRow iCX12_needsOath_0 2 rfl) (by decide)) (fun _ => ?_) (fun _ => ?_)
  · refine s_step (g_aload_n (iRow iCX12_needsOath_0 3 rfl) rfl rfl) ?_
    refine s_step (g_iconst (iRow iCX12_needsOath_0 4 rfl) kc_1) ?_
    refine s_cb (sf := fun b => vI (bI b) :: []) (fun _ _ h => h_V (As := [_]) (iRow iCX12_needsOath_0 5 rfl) l12_221 iX12_fails ko_13 rfl rfl rfl rfl (t_X12_fails (d + 1) h) rfl (by omega) (by decide) (Nat.le_of_ble_eq_true rfl)) (fun b9 M8 => ?_)
    exact s_retz (iRow iCX12_needsOath_0 6 rfl) rfl rfl
  · refine s_step (g_aload_n (iRow iCX12_needsOath_0 7 rfl) rfl rfl) ?_
    refine s_step (g_aload_n (iRow iCX12_needsOath_0 8 rfl) rfl rfl) ?_
    refine s_step (g_iload_n (iRow iCX12_needsOath_0 9 rfl) rfl rfl) ?_
    refine s_cl (sf := fun x => vI x :: [vR 13 0]) (fun _ _ h => h_V (As := [_]) (iRow iCX12_needsOath_0 10 rfl) l12_312 iX12_oathNamed ko_13 rfl rfl rfl rfl (t_X12_oathNamed (d + 0) h) rfl (by omega) (by decide) (Nat.le_of_ble_eq_true rfl)) (fun x4 M3 => ?_)
    refine s_step (g_putI (iRow iCX12_needsOath_0 11 rfl) f12_295 (Or.inl rfl) ko_13) ?_
    refine s_nmM (fun M5 => ?_)
    refine s_step (g_aload_n (iRow iCX12_needsOath_0 12 rfl) rfl rfl) ?_
    refine s_step (g_getI (iRow iCX12_needsOath_0 13 rfl) f12_295 ko_13) ?_
    refine s_if (g_if_ge (tgt := 37) (iRow iCX12_needsOath_0 14 rfl) (by decide)) (fun _ => ?_) (fun _ => ?_)
    · refine s_step (g_iconst (iRow iCX12_needsOath_0 19 rfl) kc_1) ?_
      refine s_step (g_goto (tgt := 42) (iRow iCX12_needsOath_0 20 rfl) (by decide)) ?_
      exact s_retz (b := true) (iRow iCX12_needsOath_0 22 rfl) rfl rfl
    · refine s_step (g_aload_n (iRow iCX12_needsOath_0 15 rfl) rfl rfl) ?_
      refine s_step (g_iconst (iRow iCX12_needsOath_0 16 rfl) kc_2) ?_
      refine s_cb (sf := fun b => vI (bI b) :: []) (fun _ _ h => h_V (As := [_]) (iRow iCX12_needsOath_0 17 rfl) l12_221 iX12_fails ko_13 rfl rfl rfl rfl (t_X12_fails (d + 1) h) rfl (by omega) (by decide) (Nat.le_of_ble_eq_true rfl)) (fun b7 M6 => ?_)
      refine s_ifeqb (g_if_eq (tgt := 41) (iRow iCX12_needsOath_0 18 rfl) (by decide)) (fun _ => ?_) (fun _ => ?_)
      · refine s_step (g_iconst (iRow iCX12_needsOath_0 19 rfl) kc_1) ?_
        refine s_step (g_goto (tgt := 42) (iRow iCX12_needsOath_0 20 rfl) (by decide)) ?_
        exact s_retz (b := true) (iRow iCX12_needsOath_0 22 rfl) rfl rfl
      · refine s_step (g_iconst (iRow iCX12_needsOath_0 21 rfl) kc_0) ?_
        exact s_retz (b := false) (iRow iCX12_needsOath_0 22 rfl) rfl rfl
abbrev YX12_readsPerson : mY := (RX12, "readsPerson", cX12_readsPerson, 4, (some .boolean), none)
set_option maxHeartbeats 400000 in
set_option maxRecDepth 20000 in
theorem t_X12_readsPerson {G : mg} {F : Nat} {M : mm} {x : Bool} {M' : mm} (d : Nat) (h : m_X12_readsPerson F M = some (x, M')) : CM G yX12_readsPerson cX12_readsPerson 4 (some .boolean) (d + 4) [vR 13 0] M (some (vI (bI x))) M' := by
  refine ct_z (ls := [some (vR 13 0), none, none, none]) rfl rfl (Nat.le_of_ble_eq_true rfl) (fun Z => ?_) h
  show SW G (d + 4) YX12_readsPerson Z 0 [some (vR 13 0), none, none, none] [] M _ _
  unfold m_X12_readsPerson
  refine s_step (g_bipush (iRow iCX12_readsPerson_0 0 rfl) kb_6) ?_
  refine s_step (g_aload_n (iRow iCX12_readsPerson_0 1 rfl) rfl rfl) ?_
  refine s_step (g_getR (iRow iCX12_readsPerson_0 2 rfl) f12_13 ko_13 (r_13_10 _ _)) ?_
  refine s_step (g_bipush (iRow iCX12_readsPerson_0 3 rfl) kb_6) ?_
  refine s_gi (fun h => g_iald (iRow iCX12_readsPerson_0 4 rfl) kn_64 ka_64 h) ?_
  refine s_step (g_iadd (iRow iCX12_readsPerson_0 5 rfl)) ?_
  refine s_nmI (fun x1 => ?_)
  refine s_step (g_istore_n (ls' := [some (vR 13 0), some (vI x1), none, none]) (iRow iCX12_readsPerson_0 6 rfl) rfl (by decide) rfl) ?_
  refine s_step (g_iload_n (iRow iCX12_readsPerson_0 7 rfl) rfl rfl) ?_
  refine s_step (g_bipush (iRow iCX12_readsPerson_0 8 rfl) kb_12) ?_
  refine s_ifn (g_icmp_ne (tgt := 23) (iRow iCX12_readsPerson_0 9 rfl) (by decide)) (fun _ => ?_) (fun _ => ?_)
  · refine s_step (g_aload_n (iRow iCX12_readsPerson_0 10 rfl) rfl rfl) ?_
    refine s_step (g_iconst (iRow iCX12_readsPerson_0 11 rfl) kc_5) ?_
    refine s_cb (sf := fun b => vI (bI b) :: []) (fun _ _ h => h_V (As := [_]) (iRow iCX12_readsPerson_0 12 rfl) l12_221 iX12_fails ko_13 rfl rfl rfl rfl (t_X12_fails (d + 3) h) rfl (by omega) (by decide) (Nat.le_of_ble_eq_true rfl)) (fun b18 M17 => ?_)
    exact s_retz (iRow iCX12_readsPerson_0 13 rfl) rfl rfl
  · refine s_step (g_aload_n (iRow iCX12_readsPerson_0 14 rfl) rfl rfl) ?_
    refine s_cv (stA := []) (fun _ h => h_V (As := []) (iRow iCX12_readsPerson_0 15 rfl) l12_227 iX12_nextToken ko_13 rfl rfl rfl rfl (t_X12_nextToken (d + 2) h) rfl (by omega) (by decide) (Nat.le_of_ble_eq_true rfl)) (fun M2 => ?_)
    refine s_step (g_aload_n (iRow iCX12_readsPerson_0 16 rfl) rfl rfl) ?_
    refine s_cb (sf := fun b => vI (bI b) :: []) (fun _ _ h => h_V (As := []) (iRow iCX12_readsPerson_0 17 rfl) l12_318 iX12_isNew ko_13 rfl rfl rfl rfl (t_X12_isNew (d + 1) h) rfl (by omega) (by decide) (Nat.le_of_ble_eq_true rfl)) (fun b4 M3 => ?_)
    refine s_ifneb (g_if_ne (tgt := 36) (iRow iCX12_readsPerson_0 18 rfl) (by decide)) (fun _ => ?_) (fun _ => ?_)
    · refine s_step (g_aload_n (iRow iCX12_readsPerson_0 21 rfl) rfl rfl) ?_
      refine s_step (g_getL (iRow iCX12_readsPerson_0 22 rfl) f12_175 ko_13) ?_
      refine s_nmL (fun x5 => ?_)
      refine s_step (g_lstore_n (ls' := [some (vR 13 0), some (vI x1), some (vL (x5)), none]) (iRow iCX12_readsPerson_0 23 rfl) rfl (by decide) rfl) ?_
      refine s_step (g_aload_n (iRow iCX12_readsPerson_1 0 rfl) rfl rfl) ?_
      refine s_cv (stA := []) (fun _ h => h_V (As := []) (iRow iCX12_readsPerson_1 1 rfl) l12_227 iX12_nextToken ko_13 rfl rfl rfl rfl (t_X12_nextToken (d + 2) h) rfl (by omega) (by decide) (Nat.le_of_ble_eq_true rfl)) (fun M6 => ?_)
      refine s_step (g_aload_n (iRow iCX12_readsPerson_1 2 rfl) rfl rfl) ?_
      refine s_step (g_ldc2 (iRow iCX12_readsPerson_1 3 rfl) k12_245) ?_
      refine s_step (g_iconst (iRow iCX12_readsPerson_1 4 rfl) kc_0) ?_
      refine s_step (g_bipush (iRow iCX12_readsPerson_1 5 rfl) kb_10) ?_
      refine s_cb (sf := fun b => vI (bI b) :: []) (fun _ _ h => h_V (As := [_, _, _]) (iRow iCX12_readsPerson_1 6 rfl) l12_321 iX12_needsBoth ko_13 rfl rfl rfl rfl (t_X12_needsBoth (d + 0) h) rfl (by omega) (by decide) (Nat.le_of_ble_eq_true rfl)) (fun b8 M7 => ?_)
      refine s_ifneb (g_if_ne (tgt := 60) (iRow iCX12_readsPerson_1 7 rfl) (by decide)) (fun _ => ?_) (fun _ => ?_)
      · refine s_step (g_aload_n (iRow iCX12_readsPerson_1 10 rfl) rfl rfl) ?_
        refine s_step (g_getR (iRow iCX12_readsPerson_1 11 rfl) f12_26 ko_13 (r_13_14 _ _)) ?_
        refine s_step (g_iload_n (iRow iCX12_readsPerson_1 12 rfl) rfl rfl) ?_
        refine s_step (g_aload_n (iRow iCX12_readsPerson_1 13 rfl) rfl rfl) ?_
        refine s_step (g_getI (iRow iCX12_readsPerson_1 14 rfl) f12_295 ko_13) ?_
        refine s_gi (fun h => g_iast (iRow iCX12_readsPerson_1 15 rfl) kn_68 ka_68 h) ?_
        refine s_nmM (fun M9 => ?_)
        refine s_step (g_aload_n (iRow iCX12_readsPerson_1 16 rfl) rfl rfl) ?_
        refine s_step (g_ldc2 (iRow iCX12_readsPerson_1 17 rfl) k12_247) ?_
        refine s_step (g_iconst (iRow iCX12_readsPerson_1 18 rfl) kc_0) ?_
        refine s_step (g_bipush (iRow iCX12_readsPerson_1 19 rfl) kb_99) ?_
        refine s_cb (sf := fun b => vI (bI b) :: []) (fun _ _ h => h_V (As := [_, _, _]) (iRow iCX12_readsPerson_1 20 rfl) l12_321 iX12_needsBoth ko_13 rfl rfl rfl rfl (t_X12_needsBoth (d + 0) h) rfl (by omega) (by decide) (Nat.le_of_ble_eq_true rfl)) (fun b11 M10 => ?_)
        refine s_ifneb (g_if_ne (tgt := 85) (iRow iCX12_readsPerson_1 21 rfl) (by decide)) (fun _ => ?_) (fun _ => ?_)
        · refine s_step (g_aload_n (iRow iCX12_readsPerson_2 0 rfl) rfl rfl) ?_
          refine s_step (g_getR (iRow iCX12_readsPerson_2 1 rfl) f12_29 ko_13 (r_13_15 _ _)) ?_
          refine s_step (g_iload_n (iRow iCX12_readsPerson_2 2 rfl) rfl rfl) ?_
          refine s_step (g_aload_n (iRow iCX12_readsPerson_2 3 rfl) rfl rfl) ?_
          refine s_step (g_getI (iRow iCX12_readsPerson_2 4 rfl) f12_295 ko_13) ?_
          refine s_gi (fun h => g_iast (iRow iCX12_readsPerson_2 5 rfl) kn_69 ka_69 h) ?_
          refine s_nmM (fun M12 => ?_)
          refine s_step (g_aload_n (iRow iCX12_readsPerson_2 6 rfl) rfl rfl) ?_
          refine s_step (g_getR (iRow iCX12_readsPerson_2 7 rfl) f12_16 ko_13 (r_13_11 _ _)) ?_
          refine s_step (g_iload_n (iRow iCX12_readsPerson_2 8 rfl) rfl rfl) ?_
          refine s_step (g_lload_n (iRow iCX12_readsPerson_2 9 rfl) rfl rfl) ?_
          refine s_gi (fun h => g_last (iRow iCX12_readsPerson_2 10 rfl) kn_65 ka_65 h) ?_
          refine s_nmM (fun M13 => ?_)
          refine s_step (g_aload_n (iRow iCX12_readsPerson_2 11 rfl) rfl rfl) ?_
          refine s_step (g_getR (iRow iCX12_readsPerson_2 12 rfl) f12_13 ko_13 (r_13_10 _ _)) ?_
          refine s_step (g_bipush (iRow iCX12_readsPerson_2 13 rfl) kb_6) ?_
          refine s_step (g_dup2 (iRow iCX12_readsPerson_2 14 rfl) rfl rfl) ?_
          refine s_gi (fun h => g_iald (iRow iCX12_readsPerson_2 15 rfl) kn_64 ka_64 h) ?_
          refine s_step (g_iconst (iRow iCX12_readsPerson_2 16 rfl) kc_1) ?_
          refine s_step (g_iadd (iRow iCX12_readsPerson_2 17 rfl)) ?_
          refine s_gi (fun h => g_iast (iRow iCX12_readsPerson_2 18 rfl) kn_64 ka_64 h) ?_
          refine s_nmM (fun M14 => ?_)
          refine s_step (g_aload_n (iRow iCX12_readsPerson_2 19 rfl) rfl rfl) ?_
          refine s_cb (sf := fun b => vI (bI b) :: []) (fun _ _ h => h_V (As := []) (iRow iCX12_readsPerson_2 20 rfl) l12_325 iX12_closes ko_13 rfl rfl rfl rfl (t_X12_closes (d + 1) h) rfl (by omega) (by decide) (Nat.le_of_ble_eq_true rfl)) (fun b16 M15 => ?_)
          exact s_retz (iRow iCX12_readsPerson_2 21 rfl) rfl rfl
        · refine s_step (g_iconst (iRow iCX12_readsPerson_1 22 rfl) kc_0) ?_
          exact s_retz (b := false) (iRow iCX12_readsPerson_1 23 rfl) rfl rfl
      · refine s_step (g_iconst (iRow iCX12_readsPerson_1 8 rfl) kc_0) ?_
        exact s_retz (b := false) (iRow iCX12_readsPerson_1 9 rfl) rfl rfl
    · refine s_step (g_iconst (iRow iCX12_readsPerson_0 19 rfl) kc_0) ?_
      exact s_retz (b := false) (iRow iCX12_readsPerson_0 20 rfl) rfl rfl
abbrev YX12_readsOath : mY := (RX12, "readsOath", cX12_readsOath, 4, (some .boolean), none)
set_option maxHeartbeats 400000 in
set_option maxRecDepth 20000 in
theorem t_X12_readsOath {G : mg} {F : Nat} {M : mm} {x : Bool} {M' : mm} (d : Nat) (h : m_X12_readsOath F M = some (x, M')) : CM G yX12_readsOath cX12_readsOath 4 (some .boolean) (d + 4) [vR 13 0] M (some (vI (bI x))) M' := by
  refine ct_z (ls := [some (vR 13 0), none, none, none]) rfl rfl (Nat.le_of_ble_eq_true rfl) (fun Z => ?_) h
  show SW G (d + 4) YX12_readsOath Z 0 [some (vR 13 0), none, none, none] [] M _ _
  unfold m_X12_readsOath
  refine s_step (g_bipush (iRow iCX12_readsOath_0 0 rfl) kb_10) ?_
  refine s_step (g_aload_n (iRow iCX12_readsOath_0 1 rfl) rfl rfl) ?_
  refine s_step (g_getR (iRow iCX12_readsOath_0 2 rfl) f12_13 ko_13 (r_13_10 _ _)) ?_
  refine s_step (g_bipush (iRow iCX12_readsOath_0 3 rfl) kb_7) ?_
  refine s_gi (fun h => g_iald (iRow iCX12_readsOath_0 4 rfl) kn_64 ka_64 h) ?_
  refine s_step (g_iadd (iRow iCX12_readsOath_0 5 rfl)) ?_
  refine s_nmI (fun x1 => ?_)
  refine s_step (g_istore_n (ls' := [some (vR 13 0), some (vI x1), none, none]) (iRow iCX12_readsOath_0 6 rfl) rfl (by decide) rfl) ?_
  refine s_step (g_iload_n (iRow iCX12_readsOath_0 7 rfl) rfl rfl) ?_
  refine s_step (g_bipush (iRow iCX12_readsOath_0 8 rfl) kb_20) ?_
  refine s_ifn (g_icmp_ne (tgt := 23) (iRow iCX12_readsOath_0 9 rfl) (by decide)) (fun _ => ?_) (fun _ => ?_)
  · refine s_step (g_aload_n (iRow iCX12_readsOath_0 10 rfl) rfl rfl) ?_
    refine s_step (g_iconst (iRow iCX12_readsOath_0 11 rfl) kc_5) ?_
    refine s_cb (sf := fun b => vI (bI b) :: []) (fun _ _ h => h_V (As := [_]) (iRow iCX12_readsOath_0 12 rfl) l12_221 iX12_fails ko_13 rfl rfl rfl rfl (t_X12_fails (d + 3) h) rfl (by omega) (by decide) (Nat.le_of_ble_eq_true rfl)) (fun b43 M42 => ?_)
    exact s_retz (iRow iCX12_readsOath_0 13 rfl) rfl rfl
  · refine s_step (g_aload_n (iRow iCX12_readsOath_0 14 rfl) rfl rfl) ?_
    refine s_cv (stA := []) (fun _ h => h_V (As := []) (iRow iCX12_readsOath_0 15 rfl) l12_227 iX12_nextToken ko_13 rfl rfl rfl rfl (t_X12_nextToken (d + 2) h) rfl (by omega) (by decide) (Nat.le_of_ble_eq_true rfl)) (fun M2 => ?_)
    refine s_step (g_aload_n (iRow iCX12_readsOath_0 16 rfl) rfl rfl) ?_
    refine s_cb (sf := fun b => vI (bI b) :: []) (fun _ _ h => h_V (As := []) (iRow iCX12_readsOath_0 17 rfl) l12_318 iX12_isNew ko_13 rfl rfl rfl rfl (t_X12_isNew (d + 1) h) rfl (by omega) (by decide) (Nat.le_of_ble_eq_true rfl)) (fun b4 M3 => ?_)
    refine s_ifneb (g_if_ne (tgt := 36) (iRow iCX12_readsOath_0 18 rfl) (by decide)) (fun _ => ?_) (fun _ => ?_)
    · refine s_step (g_aload_n (iRow iCX12_readsOath_0 21 rfl) rfl rfl) ?_
      refine s_step (g_getL (iRow iCX12_readsOath_0 22 rfl) f12_175 ko_13) ?_
      refine s_nmL (fun x5 => ?_)
      refine s_step (g_lstore_n (ls' := [some (vR 13 0), some (vI x1), some (vL (x5)), none]) (iRow iCX12_readsOath_0 23 rfl) rfl (by decide) rfl) ?_
      refine s_step (g_aload_n (iRow iCX12_readsOath_1 0 rfl) rfl rfl) ?_
      refine s_cv (stA := []) (fun _ h => h_V (As := []) (iRow iCX12_readsOath_1 1 rfl) l12_227 iX12_nextToken ko_13 rfl rfl rfl rfl (t_X12_nextToken (d + 2) h) rfl (by omega) (by decide) (Nat.le_of_ble_eq_true rfl)) (fun M6 => ?_)
      refine s_step (g_aload_n (iRow iCX12_readsOath_1 2 rfl) rfl rfl) ?_
      refine s_step (g_getR (iRow iCX12_readsOath_1 3 rfl) f12_32 ko_13 (r_13_16 _ _)) ?_
      refine s_step (g_iload_n (iRow iCX12_readsOath_1 4 rfl) rfl rfl) ?_
      refine s_step (g_aload_n (iRow iCX12_readsOath_1 5 rfl) rfl rfl) ?_
      refine s_step (g_ldc2 (iRow iCX12_readsOath_1 6 rfl) k12_279) ?_
      refine s_cb (sf := fun b => vI (bI b) :: [vI x1, vR 70 0]) (fun _ _ h => h_V (As := [_]) (iRow iCX12_readsOath_1 7 rfl) l12_213 iX12_isWord ko_13 rfl rfl rfl rfl (t_X12_isWord (d + 3) h) rfl (by omega) (by decide) (Nat.le_of_ble_eq_true rfl)) (fun b8 M7 => ?_)
      refine s_bd (fun z => LM G (d + 4) YX12_readsOath Z 107 [some (vR 13 0), some (vI x1), some (vL (x5)), none] [vI (z.1), vI x1, vR 70 0] z.2) ?_ ?_
      · refine s_ifeqb (g_if_eq (tgt := 64) (iRow iCX12_readsOath_1 8 rfl) (by decide)) (fun _ => ?_) (fun _ => ?_)
        · refine s_step (g_iconst (iRow iCX12_readsOath_1 9 rfl) kc_0) ?_
          refine s_step (g_goto (tgt := 107) (iRow iCX12_readsOath_1 10 rfl) (by decide)) ?_
          exact s_end (fun h => h)
        · refine s_step (g_aload_n (iRow iCX12_readsOath_1 11 rfl) rfl rfl) ?_
          refine s_step (g_ldc2 (iRow iCX12_readsOath_1 12 rfl) k12_281) ?_
          refine s_cb (sf := fun b => vI (bI b) :: [vI x1, vR 70 0]) (fun _ _ h => h_V (As := [_]) (iRow iCX12_readsOath_1 13 rfl) l12_213 iX12_isWord ko_13 rfl rfl rfl rfl (t_X12_isWord (d + 3) h) rfl (by omega) (by decide) (Nat.le_of_ble_eq_true rfl)) (fun b10 M9 => ?_)
          refine s_ifeqb (g_if_eq (tgt := 78) (iRow iCX12_readsOath_1 14 rfl) (by decide)) (fun _ => ?_) (fun _ => ?_)
          · refine s_step (g_iconst (iRow iCX12_readsOath_1 15 rfl) kc_1) ?_
            refine s_step (g_goto (tgt := 107) (iRow iCX12_readsOath_1 16 rfl) (by decide)) ?_
            exact s_end (fun h => h)
          · refine s_step (g_aload_n (iRow iCX12_readsOath_1 17 rfl) rfl rfl) ?_
            refine s_step (g_ldc2 (iRow iCX12_readsOath_1 18 rfl) k12_283) ?_
            refine s_cb (sf := fun b => vI (bI b) :: [vI x1, vR 70 0]) (fun _ _ h => h_V (As := [_]) (iRow iCX12_readsOath_1 19 rfl) l12_213 iX12_isWord ko_13 rfl rfl rfl rfl (t_X12_isWord (d + 3) h) rfl (by omega) (by decide) (Nat.le_of_ble_eq_true rfl)) (fun b12 M11 => ?_)
            refine s_ifeqb (g_if_eq (tgt := 92) (iRow iCX12_readsOath_1 20 rfl) (by decide)) (fun _ => ?_) (fun _ => ?_)
            · refine s_step (g_iconst (iRow iCX12_readsOath_1 21 rfl) kc_2) ?_
              refine s_step (g_goto (tgt := 107) (iRow iCX12_readsOath_1 22 rfl) (by decide)) ?_
              exact s_end (fun h => h)
            · refine s_step (g_aload_n (iRow iCX12_readsOath_1 23 rfl) rfl rfl) ?_
              refine s_step (g_ldc2 (iRow iCX12_readsOath_2 0 rfl) k12_285) ?_
              refine s_cb (sf := fun b => vI (bI b) :: [vI x1, vR 70 0]) (fun _ _ h => h_V (As := [_]) (iRow iCX12_readsOath_2 1 rfl) l12_213 iX12_isWord ko_13 rfl rfl rfl rfl (t_X12_isWord (d + 3) h) rfl (by omega) (by decide) (Nat.le_of_ble_eq_true rfl)) (fun b14 M13 => ?_)
              refine s_ifeqb (g_if_eq (tgt := 106) (iRow iCX12_readsOath_2 2 rfl) (by decide)) (fun _ => ?_) (fun _ => ?_)
              · refine s_step (g_iconst (iRow iCX12_readsOath_2 3 rfl) kc_3) ?_
                refine s_step (g_goto (tgt := 107) (iRow iCX12_readsOath_2 4 rfl) (by decide)) ?_
                exact s_end (fun h => h)
              · refine s_step (g_iconst (iRow iCX12_readsOath_2 5 rfl) kc_m1) ?_
                exact s_end (fun h => h)
      · rintro ⟨x15, M16⟩
        show SW G (d + 4) YX12_readsOath Z 107 [some (vR 13 0), some (vI x1), some (vL (x5)), none] [vI x15, vI x1, vR 70 0] M16 _ _
        try dsimp only
        refine s_gi (fun h => g_iast (iRow iCX12_readsOath_2 6 rfl) kn_70 ka_70 h) ?_
        refine s_nmM (fun M17 => ?_)
        refine s_step (g_aload_n (iRow iCX12_readsOath_2 7 rfl) rfl rfl) ?_
        refine s_step (g_getR (iRow iCX12_readsOath_2 8 rfl) f12_32 ko_13 (r_13_16 _ _)) ?_
        refine s_step (g_iload_n (iRow iCX12_readsOath_2 9 rfl) rfl rfl) ?_
        refine s_gi (fun h => g_iald (iRow iCX12_readsOath_2 10 rfl) kn_70 ka_70 h) ?_
        refine s_if (g_if_ge (tgt := 123) (iRow iCX12_readsOath_2 11 rfl) (by decide)) (fun _ => ?_) (fun _ => ?_)
        · refine s_step (g_aload_n (iRow iCX12_readsOath_2 16 rfl) rfl rfl) ?_
          refine s_cv (stA := []) (fun _ h => h_V (As := []) (iRow iCX12_readsOath_2 17 rfl) l12_227 iX12_nextToken ko_13 rfl rfl rfl rfl (t_X12_nextToken (d + 2) h) rfl (by omega) (by decide) (Nat.le_of_ble_eq_true rfl)) (fun M18 => ?_)
          refine s_step (g_aload_n (iRow iCX12_readsOath_2 18 rfl) rfl rfl) ?_
          refine s_step (g_ldc2 (iRow iCX12_readsOath_2 19 rfl) k12_251) ?_
          refine s_cb (sf := fun b => vI (bI b) :: []) (fun _ _ h => h_V (As := [_]) (iRow iCX12_readsOath_2 20 rfl) l12_298 iX12_needsWord ko_13 rfl rfl rfl rfl (t_X12_needsWord (d + 1) h) rfl (by omega) (by decide) (Nat.le_of_ble_eq_true rfl)) (fun b20 M19 => ?_)
          refine s_ifneb (g_if_ne (tgt := 139) (iRow iCX12_readsOath_2 21 rfl) (by decide)) (fun _ => ?_) (fun _ => ?_)
          · refine s_step (g_aload_n (iRow iCX12_readsOath_3 0 rfl) rfl rfl) ?_
            refine s_cb (sf := fun b => vI (bI b) :: []) (fun _ _ h => h_V (As := []) (iRow iCX12_readsOath_3 1 rfl) l12_305 iX12_isKept ko_13 rfl rfl rfl rfl (t_X12_isKept (d + 3) h) rfl (by omega) (by decide) (Nat.le_of_ble_eq_true rfl)) (fun b22 M21 => ?_)
            refine s_ifeqb (g_if_eq (tgt := 152) (iRow iCX12_readsOath_3 2 rfl) (by decide)) (fun _ => ?_) (fun _ => ?_)
            · refine s_step (g_aload_n (iRow iCX12_readsOath_3 3 rfl) rfl rfl) ?_
              refine s_step (g_iconst (iRow iCX12_readsOath_3 4 rfl) kc_1) ?_
              refine s_cb (sf := fun b => vI (bI b) :: []) (fun _ _ h => h_V (As := [_]) (iRow iCX12_readsOath_3 5 rfl) l12_221 iX12_fails ko_13 rfl rfl rfl rfl (t_X12_fails (d + 3) h) rfl (by omega) (by decide) (Nat.le_of_ble_eq_true rfl)) (fun b39 M38 => ?_)
              exact s_retz (iRow iCX12_readsOath_3 6 rfl) rfl rfl
            · refine s_step (g_aload_n (iRow iCX12_readsOath_3 7 rfl) rfl rfl) ?_
              refine s_step (g_getR (iRow iCX12_readsOath_3 8 rfl) f12_35 ko_13 (r_13_17 _ _)) ?_
              refine s_step (g_iload_n (iRow iCX12_readsOath_3 9 rfl) rfl rfl) ?_
              refine s_step (g_aload_n (iRow iCX12_readsOath_3 10 rfl) rfl rfl) ?_
              refine s_cl (sf := fun x => vI x :: [vI x1, vR 71 0]) (fun _ _ h => h_V (As := []) (iRow iCX12_readsOath_3 11 rfl) l12_309 iX12_personNamed ko_13 rfl rfl rfl rfl (t_X12_personNamed (d + 2) h) rfl (by omega) (by decide) (Nat.le_of_ble_eq_true rfl)) (fun x24 M23 => ?_)
              refine s_gi (fun h => g_iast (iRow iCX12_readsOath_3 12 rfl) kn_71 ka_71 h) ?_
              refine s_nmM (fun M25 => ?_)
              refine s_step (g_aload_n (iRow iCX12_readsOath_3 13 rfl) rfl rfl) ?_
              refine s_step (g_getR (iRow iCX12_readsOath_3 14 rfl) f12_35 ko_13 (r_13_17 _ _)) ?_
              refine s_step (g_iload_n (iRow iCX12_readsOath_3 15 rfl) rfl rfl) ?_
              refine s_gi (fun h => g_iald (iRow iCX12_readsOath_3 16 rfl) kn_71 ka_71 h) ?_
              refine s_if (g_if_ge (tgt := 177) (iRow iCX12_readsOath_3 17 rfl) (by decide)) (fun _ => ?_) (fun _ => ?_)
              · refine s_step (g_aload_n (iRow iCX12_readsOath_3 22 rfl) rfl rfl) ?_
                refine s_cv (stA := []) (fun _ h => h_V (As := []) (iRow iCX12_readsOath_3 23 rfl) l12_227 iX12_nextToken ko_13 rfl rfl rfl rfl (t_X12_nextToken (d + 2) h) rfl (by omega) (by decide) (Nat.le_of_ble_eq_true rfl)) (fun M26 => ?_)
                refine s_step (g_aload_n (iRow iCX12_readsOath_4 0 rfl) rfl rfl) ?_
                refine s_step (g_ldc2 (iRow iCX12_readsOath_4 1 rfl) k12_253) ?_
                refine s_step (g_iconst (iRow iCX12_readsOath_4 2 rfl) kc_1) ?_
                refine s_step (g_bipush (iRow iCX12_readsOath_4 3 rfl) kb_99) ?_
                refine s_cb (sf := fun b => vI (bI b) :: []) (fun _ _ h => h_V (As := [_, _, _]) (iRow iCX12_readsOath_4 4 rfl) l12_321 iX12_needsBoth ko_13 rfl rfl rfl rfl (t_X12_needsBoth (d + 0) h) rfl (by omega) (by decide) (Nat.le_of_ble_eq_true rfl)) (fun b28 M27 => ?_)
                refine s_ifneb (g_if_ne (tgt := 196) (iRow iCX12_readsOath_4 5 rfl) (by decide)) (fun _ => ?_) (fun _ => ?_)
                · refine s_step (g_aload_n (iRow iCX12_readsOath_4 8 rfl) rfl rfl) ?_
                  refine s_step (g_getR (iRow iCX12_readsOath_4 9 rfl) f12_38 ko_13 (r_13_18 _ _)) ?_
                  refine s_step (g_iload_n (iRow iCX12_readsOath_4 10 rfl) rfl rfl) ?_
                  refine s_step (g_aload_n (iRow iCX12_readsOath_4 11 rfl) rfl rfl) ?_
                  refine s_step (g_getI (iRow iCX12_readsOath_4 12 rfl) f12_295 ko_13) ?_
                  refine s_gi (fun h => g_iast (iRow iCX12_readsOath_4 13 rfl) kn_72 ka_72 h) ?_
                  refine s_nmM (fun M29 => ?_)
                  refine s_step (g_aload_n (iRow iCX12_readsOath_4 14 rfl) rfl rfl) ?_
                  refine s_step (g_getR (iRow iCX12_readsOath_4 15 rfl) f12_41 ko_13 (r_13_19 _ _)) ?_
                  refine s_step (g_iload_n (iRow iCX12_readsOath_4 16 rfl) rfl rfl) ?_
                  refine s_step (g_iconst (iRow iCX12_readsOath_4 17 rfl) kc_m1) ?_
                  refine s_gi (fun h => g_iast (iRow iCX12_readsOath_4 18 rfl) kn_73 ka_73 h) ?_
                  refine s_nmM (fun M30 => ?_)
                  refine s_step (g_aload_n (iRow iCX12_readsOath_4 19 rfl) rfl rfl) ?_
                  refine s_step (g_getR (iRow iCX12_readsOath_4 20 rfl) f12_44 ko_13 (r_13_20 _ _)) ?_
                  refine s_step (g_iload_n (iRow iCX12_readsOath_4 21 rfl) rfl rfl) ?_
                  refine s_step (g_iconst (iRow iCX12_readsOath_4 22 rfl) kc_0) ?_
                  refine s_gi (fun h => g_iast (iRow iCX12_readsOath_4 23 rfl) kn_74 ka_74 h) ?_
                  refine s_nmM (fun M31 => ?_)
                  refine s_step (g_aload_n (iRow iCX12_readsOath_5 0 rfl) rfl rfl) ?_
                  refine s_step (g_getR (iRow iCX12_readsOath_5 1 rfl) f12_20 ko_13 (r_13_12 _ _)) ?_
                  refine s_step (g_iload_n (iRow iCX12_readsOath_5 2 rfl) rfl rfl) ?_
                  refine s_step (g_lload_n (iRow iCX12_readsOath_5 3 rfl) rfl rfl) ?_
                  refine s_gi (fun h => g_last (iRow iCX12_readsOath_5 4 rfl) kn_66 ka_66 h) ?_
                  refine s_nmM (fun M32 => ?_)
                  refine s_step (g_aload_n (iRow iCX12_readsOath_5 5 rfl) rfl rfl) ?_
                  refine s_step (g_getR (iRow iCX12_readsOath_5 6 rfl) f12_13 ko_13 (r_13_10 _ _)) ?_
                  refine s_step (g_bipush (iRow iCX12_readsOath_5 7 rfl) kb_7) ?_
                  refine s_step (g_dup2 (iRow iCX12_readsOath_5 8 rfl) rfl rfl) ?_
                  refine s_gi (fun h => g_iald (iRow iCX12_readsOath_5 9 rfl) kn_64 ka_64 h) ?_
                  refine s_step (g_iconst (iRow iCX12_readsOath_5 10 rfl) kc_1) ?_
                  refine s_step (g_iadd (iRow iCX12_readsOath_5 11 rfl)) ?_
                  refine s_gi (fun h => g_iast (iRow iCX12_readsOath_5 12 rfl) kn_64 ka_64 h) ?_
                  refine s_nmM (fun M33 => ?_)
                  refine s_step (g_aload_n (iRow iCX12_readsOath_5 13 rfl) rfl rfl) ?_
                  refine s_cb (sf := fun b => vI (bI b) :: []) (fun _ _ h => h_V (As := []) (iRow iCX12_readsOath_5 14 rfl) l12_325 iX12_closes ko_13 rfl rfl rfl rfl (t_X12_closes (d + 1) h) rfl (by omega) (by decide) (Nat.le_of_ble_eq_true rfl)) (fun b35 M34 => ?_)
                  exact s_retz (iRow iCX12_readsOath_5 15 rfl) rfl rfl
                · refine s_step (g_iconst (iRow iCX12_readsOath_4 6 rfl) kc_0) ?_
                  exact s_retz (b := false) (iRow iCX12_readsOath_4 7 rfl) rfl rfl
              · refine s_step (g_aload_n (iRow iCX12_readsOath_3 18 rfl) rfl rfl) ?_
                refine s_step (g_iconst (iRow iCX12_readsOath_3 19 rfl) kc_2) ?_
                refine s_cb (sf := fun b => vI (bI b) :: []) (fun _ _ h => h_V (As := [_]) (iRow iCX12_readsOath_3 20 rfl) l12_221 iX12_fails ko_13 rfl rfl rfl rfl (t_X12_fails (d + 3) h) rfl (by omega) (by decide) (Nat.le_of_ble_eq_true rfl)) (fun b37 M36 => ?_)
                exact s_retz (iRow iCX12_readsOath_3 21 rfl) rfl rfl
          · refine s_step (g_iconst (iRow iCX12_readsOath_2 22 rfl) kc_0) ?_
            exact s_retz (b := false) (iRow iCX12_readsOath_2 23 rfl) rfl rfl
        · refine s_step (g_aload_n (iRow iCX12_readsOath_2 12 rfl) rfl rfl) ?_
          refine s_step (g_iconst (iRow iCX12_readsOath_2 13 rfl) kc_1) ?_
          refine s_cb (sf := fun b => vI (bI b) :: []) (fun _ _ h => h_V (As := [_]) (iRow iCX12_readsOath_2 14 rfl) l12_221 iX12_fails ko_13 rfl rfl rfl rfl (t_X12_fails (d + 3) h) rfl (by omega) (by decide) (Nat.le_of_ble_eq_true rfl)) (fun b41 M40 => ?_)
          exact s_retz (iRow iCX12_readsOath_2 15 rfl) rfl rfl
    · refine s_step (g_iconst (iRow iCX12_readsOath_0 19 rfl) kc_0) ?_
      exact s_retz (b := false) (iRow iCX12_readsOath_0 20 rfl) rfl rfl
abbrev YX12_readsPair : mY := (RX12, "readsPair", cX12_readsPair, 4, (some .boolean), none)
set_option maxHeartbeats 400000 in
set_option maxRecDepth 20000 in
theorem t_X12_readsPair {G : mg} {F : Nat} {a1 : Int32} {M : mm} {x : Bool} {M' : mm} (d : Nat) (h : m_X12_readsPair F a1 M = some (x, M')) : CM G yX12_readsPair cX12_readsPair 4 (some .boolean) (d + 3) [vR 13 0, vI a1] M (some (vI (bI x))) M' := by
  refine ct_z (ls := [some (vR 13 0), some (vI a1), none, none]) rfl rfl (Nat.le_of_ble_eq_true rfl) (fun Z => ?_) h
  show SW G (d + 3) YX12_readsPair Z 0 [some (vR 13 0), some (vI a1), none, none] [] M _ _
  unfold m_X12_readsPair
  refine s_step (g_aload_n (iRow iCX12_readsPair_0 0 rfl) rfl rfl) ?_
  refine s_cv (stA := []) (fun _ h => h_V (As := []) (iRow iCX12_readsPair_0 1 rfl) l12_227 iX12_nextToken ko_13 rfl rfl rfl rfl (t_X12_nextToken (d + 1) h) rfl (by omega) (by decide) (Nat.le_of_ble_eq_true rfl)) (fun M1 => ?_)
  refine s_step (g_aload_n (iRow iCX12_readsPair_0 2 rfl) rfl rfl) ?_
  refine s_step (g_iconst (iRow iCX12_readsPair_0 3 rfl) kc_1) ?_
  refine s_cb (sf := fun b => vI (bI b) :: []) (fun _ _ h => h_V (As := [_]) (iRow iCX12_readsPair_0 4 rfl) l12_328 iX12_needsOath ko_13 rfl rfl rfl rfl (t_X12_needsOath (d + 0) h) rfl (by omega) (by decide) (Nat.le_of_ble_eq_true rfl)) (fun b3 M2 => ?_)
  refine s_ifneb (g_if_ne (tgt := 14) (iRow iCX12_readsPair_0 5 rfl) (by decide)) (fun _ => ?_) (fun _ => ?_)
  · refine s_step (g_aload_n (iRow iCX12_readsPair_0 8 rfl) rfl rfl) ?_
    refine s_step (g_getI (iRow iCX12_readsPair_0 9 rfl) f12_295 ko_13) ?_
    refine s_nmI (fun x4 => ?_)
    refine s_step (g_istore_n (ls' := [some (vR 13 0), some (vI a1), some (vI x4), none]) (iRow iCX12_readsPair_0 10 rfl) rfl (by decide) rfl) ?_
    refine s_step (g_iload_n (iRow iCX12_readsPair_0 11 rfl) rfl rfl) ?_
    refine s_nj 41 (fun z => [some (vR 13 0), some (vI a1), some (vI x4), none]) (fun z => []) (fun z => M2) ?_ (fun j41 hj41 => ?_)
    · intro _
      show SW G (d + 3) YX12_readsPair Z 41 [some (vR 13 0), some (vI a1), some (vI x4), none] [] M2 _ _
      try dsimp only
      refine s_step (g_aload_n (iRow iCX12_readsPair_1 0 rfl) rfl rfl) ?_
      refine s_cv (stA := []) (fun _ h => h_V (As := []) (iRow iCX12_readsPair_1 1 rfl) l12_227 iX12_nextToken ko_13 rfl rfl rfl rfl (t_X12_nextToken (d + 1) h) rfl (by omega) (by decide) (Nat.le_of_ble_eq_true rfl)) (fun M7 => ?_)
      refine s_step (g_aload_n (iRow iCX12_readsPair_1 2 rfl) rfl rfl) ?_
      refine s_step (g_iconst (iRow iCX12_readsPair_1 3 rfl) kc_1) ?_
      refine s_cb (sf := fun b => vI (bI b) :: []) (fun _ _ h => h_V (As := [_]) (iRow iCX12_readsPair_1 4 rfl) l12_328 iX12_needsOath ko_13 rfl rfl rfl rfl (t_X12_needsOath (d + 0) h) rfl (by omega) (by decide) (Nat.le_of_ble_eq_true rfl)) (fun b9 M8 => ?_)
      refine s_ifneb (g_if_ne (tgt := 55) (iRow iCX12_readsPair_1 5 rfl) (by decide)) (fun _ => ?_) (fun _ => ?_)
      · refine s_step (g_aload_n (iRow iCX12_readsPair_1 8 rfl) rfl rfl) ?_
        refine s_step (g_getI (iRow iCX12_readsPair_1 9 rfl) f12_295 ko_13) ?_
        refine s_nmI (fun x10 => ?_)
        refine s_step (g_istore_n (ls' := [some (vR 13 0), some (vI a1), some (vI x4), some (vI x10)]) (iRow iCX12_readsPair_1 10 rfl) rfl (by decide) rfl) ?_
        refine s_step (g_iload_n (iRow iCX12_readsPair_1 11 rfl) rfl rfl) ?_
        refine s_step (g_iload_n (iRow iCX12_readsPair_1 12 rfl) rfl rfl) ?_
        refine s_nj 101 (fun z => [some (vR 13 0), none, none, none]) (fun z => []) (fun z => M8) ?_ (fun j101 hj101 => ?_)
        · intro _
          show SW G (d + 3) YX12_readsPair Z 101 [some (vR 13 0), none, none, none] [] M8 _ _
          try dsimp only
          refine s_step (g_aload_n (iRow iCX12_readsPair_2 12 rfl) rfl rfl) ?_
          refine s_step (g_iconst (iRow iCX12_readsPair_2 13 rfl) kc_3) ?_
          refine s_cb (sf := fun b => vI (bI b) :: []) (fun _ _ h => h_V (As := [_]) (iRow iCX12_readsPair_2 14 rfl) l12_221 iX12_fails ko_13 rfl rfl rfl rfl (t_X12_fails (d + 2) h) rfl (by omega) (by decide) (Nat.le_of_ble_eq_true rfl)) (fun b22 M21 => ?_)
          exact s_retz (iRow iCX12_readsPair_2 15 rfl) rfl rfl
        · refine s_if (g_icmp_eq (tgt := 101) (iRow iCX12_readsPair_1 13 rfl) (by decide)) (fun _ => ?_) (fun _ => ?_)
          · refine s_step (g_keep [true, false, false, false] rfl) ?_
            exact hj101 _
          · refine s_step (g_iload_n (iRow iCX12_readsPair_1 14 rfl) rfl rfl) ?_
            refine s_nj 107 (fun z => [some (vR 13 0), some (vI a1), some (vI x4), some (vI x10)]) (fun z => []) (fun z => M8) ?_ (fun j107 hj107 => ?_)
            · intro _
              show SW G (d + 3) YX12_readsPair Z 107 [some (vR 13 0), some (vI a1), some (vI x4), some (vI x10)] [] M8 _ _
              try dsimp only
              refine s_step (g_aload_n (iRow iCX12_readsPair_2 16 rfl) rfl rfl) ?_
              refine s_cv (stA := []) (fun _ h => h_V (As := []) (iRow iCX12_readsPair_2 17 rfl) l12_227 iX12_nextToken ko_13 rfl rfl rfl rfl (t_X12_nextToken (d + 1) h) rfl (by omega) (by decide) (Nat.le_of_ble_eq_true rfl)) (fun M11 => ?_)
              refine s_step (g_iload_n (iRow iCX12_readsPair_2 18 rfl) rfl rfl) ?_
              refine s_bd (fun z => LM G (d + 3) YX12_readsPair Z 190 [some (vR 13 0), none, none, none] [] z) ?_ ?_
              · refine s_if (g_if_eq (tgt := 149) (iRow iCX12_readsPair_2 19 rfl) (by decide)) (fun _ => ?_) (fun _ => ?_)
                · refine s_step (g_aload_n (iRow iCX12_readsPair_3 19 rfl) rfl rfl) ?_
                  refine s_step (g_getR (iRow iCX12_readsPair_3 20 rfl) f12_44 ko_13 (r_13_20 _ _)) ?_
                  refine s_step (g_bipush (iRow iCX12_readsPair_3 21 rfl) kb_10) ?_
                  refine s_step (g_iload_n (iRow iCX12_readsPair_3 22 rfl) rfl rfl) ?_
                  refine s_step (g_iadd (iRow iCX12_readsPair_3 23 rfl)) ?_
                  refine s_step (g_dup2 (iRow iCX12_readsPair_4 0 rfl) rfl rfl) ?_
                  refine s_gi (fun h => g_iald (iRow iCX12_readsPair_4 1 rfl) kn_74 ka_74 h) ?_
                  refine s_step (g_iconst (iRow iCX12_readsPair_4 2 rfl) kc_1) ?_
                  refine s_step (g_iload_n (iRow iCX12_readsPair_4 3 rfl) rfl rfl) ?_
                  refine s_step (g_ishl (iRow iCX12_readsPair_4 4 rfl)) ?_
                  refine s_step (g_ior (iRow iCX12_readsPair_4 5 rfl)) ?_
                  refine s_gi (fun h => g_iast (iRow iCX12_readsPair_4 6 rfl) kn_74 ka_74 h) ?_
                  refine s_nmM (fun M12 => ?_)
                  refine s_step (g_aload_n (iRow iCX12_readsPair_4 7 rfl) rfl rfl) ?_
                  refine s_step (g_getR (iRow iCX12_readsPair_4 8 rfl) f12_44 ko_13 (r_13_20 _ _)) ?_
                  refine s_step (g_bipush (iRow iCX12_readsPair_4 9 rfl) kb_10) ?_
                  refine s_step (g_iload_n (iRow iCX12_readsPair_4 10 rfl) rfl rfl) ?_
                  refine s_step (g_iadd (iRow iCX12_readsPair_4 11 rfl)) ?_
                  refine s_step (g_dup2 (iRow iCX12_readsPair_4 12 rfl) rfl rfl) ?_
                  refine s_gi (fun h => g_iald (iRow iCX12_readsPair_4 13 rfl) kn_74 ka_74 h) ?_
                  refine s_step (g_iconst (iRow iCX12_readsPair_4 14 rfl) kc_1) ?_
                  refine s_step (g_iload_n (iRow iCX12_readsPair_4 15 rfl) rfl rfl) ?_
                  refine s_step (g_ishl (iRow iCX12_readsPair_4 16 rfl)) ?_
                  refine s_step (g_ior (iRow iCX12_readsPair_4 17 rfl)) ?_
                  refine s_gi (fun h => g_iast (iRow iCX12_readsPair_4 18 rfl) kn_74 ka_74 h) ?_
                  refine s_nmM (fun M13 => ?_)
                  refine s_step (g_aload_n (iRow iCX12_readsPair_4 19 rfl) rfl rfl) ?_
                  refine s_step (g_getR (iRow iCX12_readsPair_4 20 rfl) f12_13 ko_13 (r_13_10 _ _)) ?_
                  refine s_step (g_bipush (iRow iCX12_readsPair_4 21 rfl) kb_11) ?_
                  refine s_step (g_dup2 (iRow iCX12_readsPair_4 22 rfl) rfl rfl) ?_
                  refine s_gi (fun h => g_iald (iRow iCX12_readsPair_4 23 rfl) kn_64 ka_64 h) ?_
                  refine s_step (g_iconst (iRow iCX12_readsPair_5 0 rfl) kc_1) ?_
                  refine s_step (g_iadd (iRow iCX12_readsPair_5 1 rfl)) ?_
                  refine s_gi (fun h => g_iast (iRow iCX12_readsPair_5 2 rfl) kn_64 ka_64 h) ?_
                  refine s_nmM (fun M14 => ?_)
                  refine s_step (g_keep [true, false, false, false] rfl) ?_
                  exact s_end (fun h => h)
                · refine s_step (g_aload_n (iRow iCX12_readsPair_2 20 rfl) rfl rfl) ?_
                  refine s_step (g_getR (iRow iCX12_readsPair_2 21 rfl) f12_41 ko_13 (r_13_19 _ _)) ?_
                  refine s_step (g_bipush (iRow iCX12_readsPair_2 22 rfl) kb_10) ?_
                  refine s_step (g_iload_n (iRow iCX12_readsPair_2 23 rfl) rfl rfl) ?_
                  refine s_step (g_iadd (iRow iCX12_readsPair_3 0 rfl)) ?_
                  refine s_step (g_iload_n (iRow iCX12_readsPair_3 1 rfl) rfl rfl) ?_
                  refine s_gi (fun h => g_iast (iRow iCX12_readsPair_3 2 rfl) kn_73 ka_73 h) ?_
                  refine s_nmM (fun M15 => ?_)
                  refine s_step (g_aload_n (iRow iCX12_readsPair_3 3 rfl) rfl rfl) ?_
                  refine s_step (g_getR (iRow iCX12_readsPair_3 4 rfl) f12_41 ko_13 (r_13_19 _ _)) ?_
                  refine s_step (g_bipush (iRow iCX12_readsPair_3 5 rfl) kb_10) ?_
                  refine s_step (g_iload_n (iRow iCX12_readsPair_3 6 rfl) rfl rfl) ?_
                  refine s_step (g_iadd (iRow iCX12_readsPair_3 7 rfl)) ?_
                  refine s_step (g_iload_n (iRow iCX12_readsPair_3 8 rfl) rfl rfl) ?_
                  refine s_gi (fun h => g_iast (iRow iCX12_readsPair_3 9 rfl) kn_73 ka_73 h) ?_
                  refine s_nmM (fun M16 => ?_)
                  refine s_step (g_aload_n (iRow iCX12_readsPair_3 10 rfl) rfl rfl) ?_
                  refine s_step (g_getR (iRow iCX12_readsPair_3 11 rfl) f12_13 ko_13 (r_13_10 _ _)) ?_
                  refine s_step (g_bipush (iRow iCX12_readsPair_3 12 rfl) kb_10) ?_
                  refine s_step (g_dup2 (iRow iCX12_readsPair_3 13 rfl) rfl rfl) ?_
                  refine s_gi (fun h => g_iald (iRow iCX12_readsPair_3 14 rfl) kn_64 ka_64 h) ?_
                  refine s_step (g_iconst (iRow iCX12_readsPair_3 15 rfl) kc_1) ?_
                  refine s_step (g_iadd (iRow iCX12_readsPair_3 16 rfl)) ?_
                  refine s_gi (fun h => g_iast (iRow iCX12_readsPair_3 17 rfl) kn_64 ka_64 h) ?_
                  refine s_nmM (fun M17 => ?_)
                  refine s_step (g_goto (tgt := 190) (iRow iCX12_readsPair_3 18 rfl) (by decide)) ?_
                  refine s_step (g_keep [true, false, false, false] rfl) ?_
                  exact s_end (fun h => h)
              · rintro M18
                show SW G (d + 3) YX12_readsPair Z 190 [some (vR 13 0), none, none, none] [] M18 _ _
                try dsimp only
                refine s_step (g_aload_n (iRow iCX12_readsPair_5 3 rfl) rfl rfl) ?_
                refine s_cb (sf := fun b => vI (bI b) :: []) (fun _ _ h => h_V (As := []) (iRow iCX12_readsPair_5 4 rfl) l12_325 iX12_closes ko_13 rfl rfl rfl rfl (t_X12_closes (d + 0) h) rfl (by omega) (by decide) (Nat.le_of_ble_eq_true rfl)) (fun b20 M19 => ?_)
                exact s_retz (iRow iCX12_readsPair_5 5 rfl) rfl rfl
            · refine s_if (g_if_eq (tgt := 84) (iRow iCX12_readsPair_1 15 rfl) (by decide)) (fun _ => ?_) (fun _ => ?_)
              · refine s_step (g_aload_n (iRow iCX12_readsPair_2 0 rfl) rfl rfl) ?_
                refine s_step (g_getR (iRow iCX12_readsPair_2 1 rfl) f12_44 ko_13 (r_13_20 _ _)) ?_
                refine s_step (g_bipush (iRow iCX12_readsPair_2 2 rfl) kb_10) ?_
                refine s_step (g_iload_n (iRow iCX12_readsPair_2 3 rfl) rfl rfl) ?_
                refine s_step (g_iadd (iRow iCX12_readsPair_2 4 rfl)) ?_
                refine s_gi (fun h => g_iald (iRow iCX12_readsPair_2 5 rfl) kn_74 ka_74 h) ?_
                refine s_step (g_iload_n (iRow iCX12_readsPair_2 6 rfl) rfl rfl) ?_
                refine s_step (g_ishr (iRow iCX12_readsPair_2 7 rfl)) ?_
                refine s_step (g_iconst (iRow iCX12_readsPair_2 8 rfl) kc_1) ?_
                refine s_step (g_iand (iRow iCX12_readsPair_2 9 rfl)) ?_
                refine s_step (g_iconst (iRow iCX12_readsPair_2 10 rfl) kc_1) ?_
                refine s_ifn (g_icmp_ne (tgt := 107) (iRow iCX12_readsPair_2 11 rfl) (by decide)) (fun _ => ?_) (fun _ => ?_)
                · refine s_step (g_keep [true, false, false, false] rfl) ?_
                  exact hj101 _
                · exact hj107 _
              · refine s_step (g_aload_n (iRow iCX12_readsPair_1 16 rfl) rfl rfl) ?_
                refine s_step (g_getR (iRow iCX12_readsPair_1 17 rfl) f12_41 ko_13 (r_13_19 _ _)) ?_
                refine s_step (g_bipush (iRow iCX12_readsPair_1 18 rfl) kb_10) ?_
                refine s_step (g_iload_n (iRow iCX12_readsPair_1 19 rfl) rfl rfl) ?_
                refine s_step (g_iadd (iRow iCX12_readsPair_1 20 rfl)) ?_
                refine s_gi (fun h => g_iald (iRow iCX12_readsPair_1 21 rfl) kn_73 ka_73 h) ?_
                refine s_if (g_if_lt (tgt := 107) (iRow iCX12_readsPair_1 22 rfl) (by decide)) (fun _ => ?_) (fun _ => ?_)
                · exact hj107 _
                · refine s_step (g_goto (tgt := 101) (iRow iCX12_readsPair_1 23 rfl) (by decide)) ?_
                  refine s_step (g_keep [true, false, false, false] rfl) ?_
                  exact hj101 _
      · refine s_step (g_iconst (iRow iCX12_readsPair_1 6 rfl) kc_0) ?_
        exact s_retz (b := false) (iRow iCX12_readsPair_1 7 rfl) rfl rfl
    · refine s_if (g_if_eq (tgt := 41) (iRow iCX12_readsPair_0 12 rfl) (by decide)) (fun _ => ?_) (fun _ => ?_)
      · exact hj41 _
      · refine s_step (g_aload_n (iRow iCX12_readsPair_0 13 rfl) rfl rfl) ?_
        refine s_step (g_getR (iRow iCX12_readsPair_0 14 rfl) f12_41 ko_13 (r_13_19 _ _)) ?_
        refine s_step (g_bipush (iRow iCX12_readsPair_0 15 rfl) kb_10) ?_
        refine s_step (g_iload_n (iRow iCX12_readsPair_0 16 rfl) rfl rfl) ?_
        refine s_step (g_iadd (iRow iCX12_readsPair_0 17 rfl)) ?_
        refine s_gi (fun h => g_iald (iRow iCX12_readsPair_0 18 rfl) kn_73 ka_73 h) ?_
        refine s_if (g_if_lt (tgt := 41) (iRow iCX12_readsPair_0 19 rfl) (by decide)) (fun _ => ?_) (fun _ => ?_)
        · exact hj41 _
        · refine s_step (g_aload_n (iRow iCX12_readsPair_0 20 rfl) rfl rfl) ?_
          refine s_step (g_iconst (iRow iCX12_readsPair_0 21 rfl) kc_3) ?_
          refine s_cb (sf := fun b => vI (bI b) :: []) (fun _ _ h => h_V (As := [_]) (iRow iCX12_readsPair_0 22 rfl) l12_221 iX12_fails ko_13 rfl rfl rfl rfl (t_X12_fails (d + 2) h) rfl (by omega) (by decide) (Nat.le_of_ble_eq_true rfl)) (fun b6 M5 => ?_)
          exact s_retz (iRow iCX12_readsPair_0 23 rfl) rfl rfl
  · refine s_step (g_iconst (iRow iCX12_readsPair_0 6 rfl) kc_0) ?_
    exact s_retz (b := false) (iRow iCX12_readsPair_0 7 rfl) rfl rfl
abbrev YX12_readsOn : mY := (RX12, "readsOn", cX12_readsOn, 5, (some .boolean), none)
set_option maxHeartbeats 400000 in
set_option maxRecDepth 20000 in
theorem t_X12_readsOn {G : mg} {F : Nat} {a1 : Int32} {M : mm} {x : Bool} {M' : mm} (d : Nat) (h : m_X12_readsOn F a1 M = some (x, M')) : CM G yX12_readsOn cX12_readsOn 5 (some .boolean) (d + 2) [vR 13 0, vI a1] M (some (vI (bI x))) M' := by
  refine ct_z (ls := [some (vR 13 0), some (vI a1), none, none, none]) rfl rfl (Nat.le_of_ble_eq_true rfl) (fun Z => ?_) h
  show SW G (d + 2) YX12_readsOn Z 0 [some (vR 13 0), some (vI a1), none, none, none] [] M _ _
  unfold m_X12_readsOn
  refine s_step (g_iconst (iRow iCX12_readsOn_0 0 rfl) kc_0) ?_
  refine s_step (g_istore_n (ls' := [some (vR 13 0), some (vI a1), some (vI (0 : Int32)), none, none]) (iRow iCX12_readsOn_0 1 rfl) rfl (by decide) rfl) ?_
  refine s_lp (fun z => [some (vR 13 0), some (vI a1), some (vI (z.1)), none, none]) (fun z => z.2) (Sum.elim (fun z => LM G (d + 2) YX12_readsOn Z 22 [some (vR 13 0), none, none, none, none] [] z) (Sum.elim (fun z => LM G (d + 2) YX12_readsOn Z 50 [some (vR 13 0), none, none, none, none] [] z) (Sum.elim (fun z => LM G (d + 2) YX12_readsOn Z 74 [some (vR 13 0), none, none, none, none] [] z) (Sum.elim (fun z => LM G (d + 2) YX12_readsOn Z 92 [some (vR 13 0), none, none, none, none] [] z) (fun z => LM G (d + 2) YX12_readsOn Z 140 [none, none, none, none, none] [] z))))) rfl rfl ?_ ?_
  · rintro ⟨x1, M2⟩
    show SW G (d + 2) YX12_readsOn Z 2 [some (vR 13 0), some (vI a1), some (vI x1), none, none] [] M2 (b_X12_readsOn_1c F a1 x1 M2) _
    unfold b_X12_readsOn_1c
    refine s_step (g_iload_n (iRow iCX12_readsOn_0 2 rfl) rfl rfl) ?_
    refine s_nj 15 (fun z => [some (vR 13 0), some (vI a1), some (vI x1), none, none]) (fun z => []) (fun z => z) ?_ (fun j15 hj15 => ?_)
    · rintro M5
      show SW G (d + 2) YX12_readsOn Z 15 [some (vR 13 0), some (vI a1), some (vI x1), none, none] [] M5 _ _
      try dsimp only
      refine s_step (g_aload_n (iRow iCX12_readsOn_0 8 rfl) rfl rfl) ?_
      refine s_cb (sf := fun b => vI (bI b) :: []) (fun _ _ h => h_V (As := []) (iRow iCX12_readsOn_0 9 rfl) l12_305 iX12_isKept ko_13 rfl rfl rfl rfl (t_X12_isKept (d + 1) h) rfl (by omega) (by decide) (Nat.le_of_ble_eq_true rfl)) (fun b7 M6 => ?_)
      refine s_ifeqb (g_if_eq (tgt := 28) (iRow iCX12_readsOn_0 10 rfl) (by decide)) (fun _ => ?_) (fun _ => ?_)
      · refine s_step (g_keep [true, false, false, false, false] rfl) ?_
        exact s_end (fun h => h)
      · refine s_step (g_aload_n (iRow iCX12_readsOn_0 15 rfl) rfl rfl) ?_
        refine s_step (g_iconst (iRow iCX12_readsOn_0 16 rfl) kc_1) ?_
        refine s_cl (sf := fun x => vI x :: []) (fun _ _ h => h_V (As := [_]) (iRow iCX12_readsOn_0 17 rfl) l12_312 iX12_oathNamed ko_13 rfl rfl rfl rfl (t_X12_oathNamed (d + 0) h) rfl (by omega) (by decide) (Nat.le_of_ble_eq_true rfl)) (fun x9 M8 => ?_)
        refine s_step (g_istore_n (ls' := [some (vR 13 0), some (vI a1), some (vI x1), some (vI x9), none]) (iRow iCX12_readsOn_0 18 rfl) rfl (by decide) rfl) ?_
        refine s_step (g_aload_n (iRow iCX12_readsOn_0 19 rfl) rfl rfl) ?_
        refine s_step (g_iconst (iRow iCX12_readsOn_0 20 rfl) kc_1) ?_
        refine s_cl (sf := fun x => vI x :: []) (fun _ _ h => h_V (As := [_]) (iRow iCX12_readsOn_0 21 rfl) l12_315 iX12_stoneNamed ko_13 rfl rfl rfl rfl (t_X12_stoneNamed (d + 0) h) rfl (by omega) (by decide) (Nat.le_of_ble_eq_true rfl)) (fun x11 M10 => ?_)
        refine s_step (g_istore (ls' := [some (vR 13 0), some (vI a1), some (vI x1), some (vI x9), some (vI x11)]) (iRow iCX12_readsOn_0 22 rfl) (by decide) rfl) ?_
        refine s_step (g_iload_n (iRow iCX12_readsOn_0 23 rfl) rfl rfl) ?_
        refine s_nj 56 (fun z => [some (vR 13 0), some (vI a1), some (vI x1), some (vI x9), some (vI x11)]) (fun z => []) (fun z => M10) ?_ (fun j56 hj56 => ?_)
        · intro _
          show SW G (d + 2) YX12_readsOn Z 56 [some (vR 13 0), some (vI a1), some (vI x1), some (vI x9), some (vI x11)] [] M10 _ _
          try dsimp only
          refine s_step (g_iload_n (iRow iCX12_readsOn_1 7 rfl) rfl rfl) ?_
          refine s_nj 98 (fun z => [some (vR 13 0), some (vI a1), some (vI x1), some (vI x9), some (vI x11)]) (fun z => []) (fun z => M10) ?_ (fun j98 hj98 => ?_)
          · intro _
            show SW G (d + 2) YX12_readsOn Z 98 [some (vR 13 0), some (vI a1), some (vI x1), some (vI x9), some (vI x11)] [] M10 _ _
            try dsimp only
            refine s_step (g_iload_n (iRow iCX12_readsOn_2 10 rfl) rfl rfl) ?_
            refine s_bd (fun z => LM G (d + 2) YX12_readsOn Z 130 [some (vR 13 0), some (vI a1), some (vI x1), none, none] [] z) ?_ ?_
            · refine s_if (g_if_lt (tgt := 117) (iRow iCX12_readsOn_2 11 rfl) (by decide)) (fun _ => ?_) (fun _ => ?_)
              · refine s_step (g_aload_n (iRow iCX12_readsOn_2 23 rfl) rfl rfl) ?_
                refine s_step (g_getR (iRow iCX12_readsOn_3 0 rfl) f12_56 ko_13 (r_13_24 _ _)) ?_
                refine s_step (g_iload_n (iRow iCX12_readsOn_3 1 rfl) rfl rfl) ?_
                refine s_step (g_dup2 (iRow iCX12_readsOn_3 2 rfl) rfl rfl) ?_
                refine s_gi (fun h => g_iald (iRow iCX12_readsOn_3 3 rfl) kn_78 ka_78 h) ?_
                refine s_step (g_iconst (iRow iCX12_readsOn_3 4 rfl) kc_1) ?_
                refine s_step (g_iload (iRow iCX12_readsOn_3 5 rfl) rfl) ?_
                refine s_step (g_ishl (iRow iCX12_readsOn_3 6 rfl)) ?_
                refine s_step (g_ior (iRow iCX12_readsOn_3 7 rfl)) ?_
                refine s_gi (fun h => g_iast (iRow iCX12_readsOn_3 8 rfl) kn_78 ka_78 h) ?_
                refine s_nmM (fun M12 => ?_)
                refine s_step (g_keep [true, true, true, false, false] rfl) ?_
                exact s_end (fun h => h)
              · refine s_step (g_aload_n (iRow iCX12_readsOn_2 12 rfl) rfl rfl) ?_
                refine s_step (g_getR (iRow iCX12_readsOn_2 13 rfl) f12_53 ko_13 (r_13_23 _ _)) ?_
                refine s_step (g_iload_n (iRow iCX12_readsOn_2 14 rfl) rfl rfl) ?_
                refine s_step (g_dup2 (iRow iCX12_readsOn_2 15 rfl) rfl rfl) ?_
                refine s_gi (fun h => g_iald (iRow iCX12_readsOn_2 16 rfl) kn_77 ka_77 h) ?_
                refine s_step (g_iconst (iRow iCX12_readsOn_2 17 rfl) kc_1) ?_
                refine s_step (g_iload_n (iRow iCX12_readsOn_2 18 rfl) rfl rfl) ?_
                refine s_step (g_ishl (iRow iCX12_readsOn_2 19 rfl)) ?_
                refine s_step (g_ior (iRow iCX12_readsOn_2 20 rfl)) ?_
                refine s_gi (fun h => g_iast (iRow iCX12_readsOn_2 21 rfl) kn_77 ka_77 h) ?_
                refine s_nmM (fun M13 => ?_)
                refine s_step (g_goto (tgt := 130) (iRow iCX12_readsOn_2 22 rfl) (by decide)) ?_
                refine s_step (g_keep [true, true, true, false, false] rfl) ?_
                exact s_end (fun h => h)
            · rintro M14
              show SW G (d + 2) YX12_readsOn Z 130 [some (vR 13 0), some (vI a1), some (vI x1), none, none] [] M14 _ _
              try dsimp only
              refine s_step (g_iincc (c := 1) (ls' := [some (vR 13 0), some (vI a1), some (vI (x1 + (1 : Int32))), none, none]) (iRow iCX12_readsOn_3 9 rfl) rfl kc_1 (by decide) rfl) ?_
              refine s_step (g_aload_n (iRow iCX12_readsOn_3 10 rfl) rfl rfl) ?_
              refine s_cv (stA := []) (fun _ h => h_V (As := []) (iRow iCX12_readsOn_3 11 rfl) l12_227 iX12_nextToken ko_13 rfl rfl rfl rfl (t_X12_nextToken (d + 0) h) rfl (by omega) (by decide) (Nat.le_of_ble_eq_true rfl)) (fun M15 => ?_)
              refine s_step (g_goto (tgt := 2) (iRow iCX12_readsOn_3 12 rfl) (by decide)) ?_
              exact s_end (fun h => h)
          · refine s_if (g_if_lt (tgt := 77) (iRow iCX12_readsOn_1 8 rfl) (by decide)) (fun _ => ?_) (fun _ => ?_)
            · refine s_step (g_aload_n (iRow iCX12_readsOn_1 20 rfl) rfl rfl) ?_
              refine s_step (g_getR (iRow iCX12_readsOn_1 21 rfl) f12_56 ko_13 (r_13_24 _ _)) ?_
              refine s_step (g_iload_n (iRow iCX12_readsOn_1 22 rfl) rfl rfl) ?_
              refine s_gi (fun h => g_iald (iRow iCX12_readsOn_1 23 rfl) kn_78 ka_78 h) ?_
              refine s_step (g_iload (iRow iCX12_readsOn_2 0 rfl) rfl) ?_
              refine s_step (g_ishr (iRow iCX12_readsOn_2 1 rfl)) ?_
              refine s_step (g_iconst (iRow iCX12_readsOn_2 2 rfl) kc_1) ?_
              refine s_step (g_iand (iRow iCX12_readsOn_2 3 rfl)) ?_
              refine s_step (g_iconst (iRow iCX12_readsOn_2 4 rfl) kc_1) ?_
              refine s_ifn (g_icmp_ne (tgt := 98) (iRow iCX12_readsOn_2 5 rfl) (by decide)) (fun _ => ?_) (fun _ => ?_)
              · refine s_step (g_keep [true, false, false, false, false] rfl) ?_
                exact s_end (fun h => h)
              · exact hj98 _
            · refine s_step (g_aload_n (iRow iCX12_readsOn_1 9 rfl) rfl rfl) ?_
              refine s_step (g_getR (iRow iCX12_readsOn_1 10 rfl) f12_53 ko_13 (r_13_23 _ _)) ?_
              refine s_step (g_iload_n (iRow iCX12_readsOn_1 11 rfl) rfl rfl) ?_
              refine s_gi (fun h => g_iald (iRow iCX12_readsOn_1 12 rfl) kn_77 ka_77 h) ?_
              refine s_step (g_iload_n (iRow iCX12_readsOn_1 13 rfl) rfl rfl) ?_
              refine s_step (g_ishr (iRow iCX12_readsOn_1 14 rfl)) ?_
              refine s_step (g_iconst (iRow iCX12_readsOn_1 15 rfl) kc_1) ?_
              refine s_step (g_iand (iRow iCX12_readsOn_1 16 rfl)) ?_
              refine s_step (g_iconst (iRow iCX12_readsOn_1 17 rfl) kc_1) ?_
              refine s_ifn (g_icmp_ne (tgt := 98) (iRow iCX12_readsOn_1 18 rfl) (by decide)) (fun _ => ?_) (fun _ => ?_)
              · refine s_step (g_keep [true, false, false, false, false] rfl) ?_
                exact s_end (fun h => h)
              · exact hj98 _
        · refine s_if (g_if_ge (tgt := 56) (iRow iCX12_readsOn_1 0 rfl) (by decide)) (fun _ => ?_) (fun _ => ?_)
          · exact hj56 _
          · refine s_step (g_iload (iRow iCX12_readsOn_1 1 rfl) rfl) ?_
            refine s_if (g_if_ge (tgt := 56) (iRow iCX12_readsOn_1 2 rfl) (by decide)) (fun _ => ?_) (fun _ => ?_)
            · exact hj56 _
            · refine s_step (g_keep [true, false, false, false, false] rfl) ?_
              exact s_end (fun h => h)
    · refine s_if (g_if_eq (tgt := 15) (iRow iCX12_readsOn_0 3 rfl) (by decide)) (fun _ => ?_) (fun _ => ?_)
      · exact hj15 _
      · refine s_step (g_aload_n (iRow iCX12_readsOn_0 4 rfl) rfl rfl) ?_
        refine s_step (g_bipush (iRow iCX12_readsOn_0 5 rfl) kb_59) ?_
        refine s_cb (sf := fun b => vI (bI b) :: []) (fun _ _ h => h_V (As := [_]) (iRow iCX12_readsOn_0 6 rfl) l12_217 iX12_isSign ko_13 rfl rfl rfl rfl (t_X12_isSign (d + 1) h) rfl (by omega) (by decide) (Nat.le_of_ble_eq_true rfl)) (fun b4 M3 => ?_)
        refine s_ifneb (g_if_ne (tgt := 140) (iRow iCX12_readsOn_0 7 rfl) (by decide)) (fun _ => ?_) (fun _ => ?_)
        · refine s_step (g_keep [false, false, false, false, false] rfl) ?_
          exact s_end (fun h => h)
        · exact hj15 _
  · intro z
    rcases z with z | z
    · generalize z = M16
      show SW G (d + 2) YX12_readsOn Z 22 [some (vR 13 0), none, none, none, none] [] M16 _ _
      try dsimp only [Sum.elim]
      refine s_step (g_aload_n (iRow iCX12_readsOn_0 11 rfl) rfl rfl) ?_
      refine s_step (g_iconst (iRow iCX12_readsOn_0 12 rfl) kc_1) ?_
      refine s_cb (sf := fun b => vI (bI b) :: []) (fun _ _ h => h_V (As := [_]) (iRow iCX12_readsOn_0 13 rfl) l12_221 iX12_fails ko_13 rfl rfl rfl rfl (t_X12_fails (d + 1) h) rfl (by omega) (by decide) (Nat.le_of_ble_eq_true rfl)) (fun b18 M17 => ?_)
      exact s_retz (iRow iCX12_readsOn_0 14 rfl) rfl rfl
    · rcases z with z | z
      · generalize z = M19
        show SW G (d + 2) YX12_readsOn Z 50 [some (vR 13 0), none, none, none, none] [] M19 _ _
        try dsimp only [Sum.elim]
        refine s_step (g_aload_n (iRow iCX12_readsOn_1 3 rfl) rfl rfl) ?_
        refine s_step (g_iconst (iRow iCX12_readsOn_1 4 rfl) kc_2) ?_
        refine s_cb (sf := fun b => vI (bI b) :: []) (fun _ _ h => h_V (As := [_]) (iRow iCX12_readsOn_1 5 rfl) l12_221 iX12_fails ko_13 rfl rfl rfl rfl (t_X12_fails (d + 1) h) rfl (by omega) (by decide) (Nat.le_of_ble_eq_true rfl)) (fun b21 M20 => ?_)
        exact s_retz (iRow iCX12_readsOn_1 6 rfl) rfl rfl
      · rcases z with z | z
        · generalize z = M22
          show SW G (d + 2) YX12_readsOn Z 74 [some (vR 13 0), none, none, none, none] [] M22 _ _
          try dsimp only [Sum.elim]
          refine s_step (g_goto (tgt := 92) (iRow iCX12_readsOn_1 19 rfl) (by decide)) ?_
          refine s_step (g_aload_n (iRow iCX12_readsOn_2 6 rfl) rfl rfl) ?_
          refine s_step (g_iconst (iRow iCX12_readsOn_2 7 rfl) kc_3) ?_
          refine s_cb (sf := fun b => vI (bI b) :: []) (fun _ _ h => h_V (As := [_]) (iRow iCX12_readsOn_2 8 rfl) l12_221 iX12_fails ko_13 rfl rfl rfl rfl (t_X12_fails (d + 1) h) rfl (by omega) (by decide) (Nat.le_of_ble_eq_true rfl)) (fun b24 M23 => ?_)
          exact s_retz (iRow iCX12_readsOn_2 9 rfl) rfl rfl
        · rcases z with z | z
          · generalize z = M25
            show SW G (d + 2) YX12_readsOn Z 92 [some (vR 13 0), none, none, none, none] [] M25 _ _
            try dsimp only [Sum.elim]
            refine s_step (g_aload_n (iRow iCX12_readsOn_2 6 rfl) rfl rfl) ?_
            refine s_step (g_iconst (iRow iCX12_readsOn_2 7 rfl) kc_3) ?_
            refine s_cb (sf := fun b => vI (bI b) :: []) (fun _ _ h => h_V (As := [_]) (iRow iCX12_readsOn_2 8 rfl) l12_221 iX12_fails ko_13 rfl rfl rfl rfl (t_X12_fails (d + 1) h) rfl (by omega) (by decide) (Nat.le_of_ble_eq_true rfl)) (fun b27 M26 => ?_)
            exact s_retz (iRow iCX12_readsOn_2 9 rfl) rfl rfl
          · generalize z = M28
            show SW G (d + 2) YX12_readsOn Z 140 [none, none, none, none, none] [] M28 _ _
            try dsimp only [Sum.elim]
            refine s_step (g_iconst (iRow iCX12_readsOn_3 13 rfl) kc_1) ?_
            exact s_retz (b := true) (iRow iCX12_readsOn_3 14 rfl) rfl rfl
abbrev YX12_readsStone : mY := (RX12, "readsStone", cX12_readsStone, 5, (some .boolean), none)
set_option maxHeartbeats 400000 in
set_option maxRecDepth 20000 in
theorem t_X12_readsStone {G : mg} {F : Nat} {M : mm} {x : Bool} {M' : mm} (d : Nat) (h : m_X12_readsStone F M = some (x, M')) : CM G yX12_readsStone cX12_readsStone 5 (some .boolean) (d + 4) [vR 13 0] M (some (vI (bI x))) M' := by
  refine ct_z (ls := [some (vR 13 0), none, none, none, none]) rfl rfl (Nat.le_of_ble_eq_true rfl) (fun Z => ?_) h
  show SW G (d + 4) YX12_readsStone Z 0 [some (vR 13 0), none, none, none, none] [] M _ _
  unfold m_X12_readsStone
  refine s_step (g_aload_n (iRow iCX12_readsStone_0 0 rfl) rfl rfl) ?_
  refine s_step (g_getR (iRow iCX12_readsStone_0 1 rfl) f12_13 ko_13 (r_13_10 _ _)) ?_
  refine s_step (g_bipush (iRow iCX12_readsStone_0 2 rfl) kb_8) ?_
  refine s_gi (fun h => g_iald (iRow iCX12_readsStone_0 3 rfl) kn_64 ka_64 h) ?_
  refine s_nmI (fun x1 => ?_)
  refine s_step (g_istore_n (ls' := [some (vR 13 0), some (vI x1), none, none, none]) (iRow iCX12_readsStone_0 4 rfl) rfl (by decide) rfl) ?_
  refine s_step (g_iload_n (iRow iCX12_readsStone_0 5 rfl) rfl rfl) ?_
  refine s_step (g_bipush (iRow iCX12_readsStone_0 6 rfl) kb_10) ?_
  refine s_ifn (g_icmp_ne (tgt := 20) (iRow iCX12_readsStone_0 7 rfl) (by decide)) (fun _ => ?_) (fun _ => ?_)
  · refine s_step (g_aload_n (iRow iCX12_readsStone_0 8 rfl) rfl rfl) ?_
    refine s_step (g_iconst (iRow iCX12_readsStone_0 9 rfl) kc_5) ?_
    refine s_cb (sf := fun b => vI (bI b) :: []) (fun _ _ h => h_V (As := [_]) (iRow iCX12_readsStone_0 10 rfl) l12_221 iX12_fails ko_13 rfl rfl rfl rfl (t_X12_fails (d + 3) h) rfl (by omega) (by decide) (Nat.le_of_ble_eq_true rfl)) (fun b27 M26 => ?_)
    exact s_retz (iRow iCX12_readsStone_0 11 rfl) rfl rfl
  · refine s_step (g_bipush (iRow iCX12_readsStone_0 12 rfl) kb_11) ?_
    refine s_step (g_iload_n (iRow iCX12_readsStone_0 13 rfl) rfl rfl) ?_
    refine s_step (g_iadd (iRow iCX12_readsStone_0 14 rfl)) ?_
    refine s_nmI (fun x2 => ?_)
    refine s_step (g_istore_n (ls' := [some (vR 13 0), some (vI x1), some (vI x2), none, none]) (iRow iCX12_readsStone_0 15 rfl) rfl (by decide) rfl) ?_
    refine s_step (g_aload_n (iRow iCX12_readsStone_0 16 rfl) rfl rfl) ?_
    refine s_cv (stA := []) (fun _ h => h_V (As := []) (iRow iCX12_readsStone_0 17 rfl) l12_227 iX12_nextToken ko_13 rfl rfl rfl rfl (t_X12_nextToken (d + 2) h) rfl (by omega) (by decide) (Nat.le_of_ble_eq_true rfl)) (fun M3 => ?_)
    refine s_step (g_aload_n (iRow iCX12_readsStone_0 18 rfl) rfl rfl) ?_
    refine s_cb (sf := fun b => vI (bI b) :: []) (fun _ _ h => h_V (As := []) (iRow iCX12_readsStone_0 19 rfl) l12_318 iX12_isNew ko_13 rfl rfl rfl rfl (t_X12_isNew (d + 1) h) rfl (by omega) (by decide) (Nat.le_of_ble_eq_true rfl)) (fun b5 M4 => ?_)
    refine s_ifneb (g_if_ne (tgt := 38) (iRow iCX12_readsStone_0 20 rfl) (by decide)) (fun _ => ?_) (fun _ => ?_)
    · refine s_step (g_aload_n (iRow iCX12_readsStone_0 23 rfl) rfl rfl) ?_
      refine s_step (g_getL (iRow iCX12_readsStone_1 0 rfl) f12_175 ko_13) ?_
      refine s_nmL (fun x6 => ?_)
      refine s_step (g_lstore_n (ls' := [some (vR 13 0), some (vI x1), some (vI x2), some (vL (x6)), none]) (iRow iCX12_readsStone_1 1 rfl) rfl (by decide) rfl) ?_
      refine s_step (g_aload_n (iRow iCX12_readsStone_1 2 rfl) rfl rfl) ?_
      refine s_cv (stA := []) (fun _ h => h_V (As := []) (iRow iCX12_readsStone_1 3 rfl) l12_227 iX12_nextToken ko_13 rfl rfl rfl rfl (t_X12_nextToken (d + 2) h) rfl (by omega) (by decide) (Nat.le_of_ble_eq_true rfl)) (fun M7 => ?_)
      refine s_step (g_aload_n (iRow iCX12_readsStone_1 4 rfl) rfl rfl) ?_
      refine s_step (g_ldc2 (iRow iCX12_readsStone_1 5 rfl) k12_261) ?_
      refine s_step (g_iconst (iRow iCX12_readsStone_1 6 rfl) kc_0) ?_
      refine s_step (g_bipush (iRow iCX12_readsStone_1 7 rfl) kb_99) ?_
      refine s_cb (sf := fun b => vI (bI b) :: []) (fun _ _ h => h_V (As := [_, _, _]) (iRow iCX12_readsStone_1 8 rfl) l12_321 iX12_needsBoth ko_13 rfl rfl rfl rfl (t_X12_needsBoth (d + 0) h) rfl (by omega) (by decide) (Nat.le_of_ble_eq_true rfl)) (fun b9 M8 => ?_)
      refine s_ifneb (g_if_ne (tgt := 62) (iRow iCX12_readsStone_1 9 rfl) (by decide)) (fun _ => ?_) (fun _ => ?_)
      · refine s_step (g_aload_n (iRow iCX12_readsStone_1 12 rfl) rfl rfl) ?_
        refine s_step (g_getR (iRow iCX12_readsStone_1 13 rfl) f12_47 ko_13 (r_13_21 _ _)) ?_
        refine s_step (g_iload_n (iRow iCX12_readsStone_1 14 rfl) rfl rfl) ?_
        refine s_step (g_aload_n (iRow iCX12_readsStone_1 15 rfl) rfl rfl) ?_
        refine s_step (g_getI (iRow iCX12_readsStone_1 16 rfl) f12_295 ko_13) ?_
        refine s_gi (fun h => g_iast (iRow iCX12_readsStone_1 17 rfl) kn_75 ka_75 h) ?_
        refine s_nmM (fun M10 => ?_)
        refine s_step (g_aload_n (iRow iCX12_readsStone_1 18 rfl) rfl rfl) ?_
        refine s_step (g_ldc2 (iRow iCX12_readsStone_1 19 rfl) k12_263) ?_
        refine s_step (g_iconst (iRow iCX12_readsStone_1 20 rfl) kc_0) ?_
        refine s_step (g_bipush (iRow iCX12_readsStone_1 21 rfl) kb_99) ?_
        refine s_cb (sf := fun b => vI (bI b) :: []) (fun _ _ h => h_V (As := [_, _, _]) (iRow iCX12_readsStone_1 22 rfl) l12_321 iX12_needsBoth ko_13 rfl rfl rfl rfl (t_X12_needsBoth (d + 0) h) rfl (by omega) (by decide) (Nat.le_of_ble_eq_true rfl)) (fun b12 M11 => ?_)
        refine s_ifneb (g_if_ne (tgt := 87) (iRow iCX12_readsStone_1 23 rfl) (by decide)) (fun _ => ?_) (fun _ => ?_)
        · refine s_step (g_aload_n (iRow iCX12_readsStone_2 2 rfl) rfl rfl) ?_
          refine s_step (g_getR (iRow iCX12_readsStone_2 3 rfl) f12_50 ko_13 (r_13_22 _ _)) ?_
          refine s_step (g_bipush (iRow iCX12_readsStone_2 4 rfl) kb_10) ?_
          refine s_step (g_iload_n (iRow iCX12_readsStone_2 5 rfl) rfl rfl) ?_
          refine s_step (g_iadd (iRow iCX12_readsStone_2 6 rfl)) ?_
          refine s_step (g_aload_n (iRow iCX12_readsStone_2 7 rfl) rfl rfl) ?_
          refine s_step (g_getI (iRow iCX12_readsStone_2 8 rfl) f12_295 ko_13) ?_
          refine s_gi (fun h => g_iast (iRow iCX12_readsStone_2 9 rfl) kn_76 ka_76 h) ?_
          refine s_nmM (fun M13 => ?_)
          refine s_step (g_aload_n (iRow iCX12_readsStone_2 10 rfl) rfl rfl) ?_
          refine s_step (g_getR (iRow iCX12_readsStone_2 11 rfl) f12_53 ko_13 (r_13_23 _ _)) ?_
          refine s_step (g_iload_n (iRow iCX12_readsStone_2 12 rfl) rfl rfl) ?_
          refine s_step (g_iconst (iRow iCX12_readsStone_2 13 rfl) kc_0) ?_
          refine s_gi (fun h => g_iast (iRow iCX12_readsStone_2 14 rfl) kn_77 ka_77 h) ?_
          refine s_nmM (fun M14 => ?_)
          refine s_step (g_aload_n (iRow iCX12_readsStone_2 15 rfl) rfl rfl) ?_
          refine s_step (g_getR (iRow iCX12_readsStone_2 16 rfl) f12_56 ko_13 (r_13_24 _ _)) ?_
          refine s_step (g_iload_n (iRow iCX12_readsStone_2 17 rfl) rfl rfl) ?_
          refine s_step (g_iconst (iRow iCX12_readsStone_2 18 rfl) kc_0) ?_
          refine s_gi (fun h => g_iast (iRow iCX12_readsStone_2 19 rfl) kn_78 ka_78 h) ?_
          refine s_nmM (fun M15 => ?_)
          refine s_step (g_aload_n (iRow iCX12_readsStone_2 20 rfl) rfl rfl) ?_
          refine s_step (g_ldc2 (iRow iCX12_readsStone_2 21 rfl) k12_265) ?_
          refine s_cb (sf := fun b => vI (bI b) :: []) (fun _ _ h => h_V (As := [_]) (iRow iCX12_readsStone_2 22 rfl) l12_213 iX12_isWord ko_13 rfl rfl rfl rfl (t_X12_isWord (d + 3) h) rfl (by omega) (by decide) (Nat.le_of_ble_eq_true rfl)) (fun b17 M16 => ?_)
          refine s_nj 138 (fun z => [some (vR 13 0), some (vI x1), none, some (vL (x6)), none]) (fun z => []) (fun z => z) ?_ (fun j138 hj138 => ?_)
          · rintro M21
            show SW G (d + 4) YX12_readsStone Z 138 [some (vR 13 0), some (vI x1), none, some (vL (x6)), none] [] M21 _ _
            try dsimp only
            refine s_step (g_aload_n (iRow iCX12_readsStone_3 8 rfl) rfl rfl) ?_
            refine s_step (g_getR (iRow iCX12_readsStone_3 9 rfl) f12_23 ko_13 (r_13_13 _ _)) ?_
            refine s_step (g_bipush (iRow iCX12_readsStone_3 10 rfl) kb_10) ?_
            refine s_step (g_iload_n (iRow iCX12_readsStone_3 11 rfl) rfl rfl) ?_
            refine s_step (g_iadd (iRow iCX12_readsStone_3 12 rfl)) ?_
            refine s_step (g_lload_n (iRow iCX12_readsStone_3 13 rfl) rfl rfl) ?_
            refine s_gi (fun h => g_last (iRow iCX12_readsStone_3 14 rfl) kn_67 ka_67 h) ?_
            refine s_nmM (fun M22 => ?_)
            refine s_step (g_aload_n (iRow iCX12_readsStone_3 15 rfl) rfl rfl) ?_
            refine s_step (g_getR (iRow iCX12_readsStone_3 16 rfl) f12_13 ko_13 (r_13_10 _ _)) ?_
            refine s_step (g_bipush (iRow iCX12_readsStone_3 17 rfl) kb_8) ?_
            refine s_step (g_dup2 (iRow iCX12_readsStone_3 18 rfl) rfl rfl) ?_
            refine s_gi (fun h => g_iald (iRow iCX12_readsStone_3 19 rfl) kn_64 ka_64 h) ?_
            refine s_step (g_iconst (iRow iCX12_readsStone_3 20 rfl) kc_1) ?_
            refine s_step (g_iadd (iRow iCX12_readsStone_3 21 rfl)) ?_
            refine s_gi (fun h => g_iast (iRow iCX12_readsStone_3 22 rfl) kn_64 ka_64 h) ?_
            refine s_nmM (fun M23 => ?_)
            refine s_step (g_aload_n (iRow iCX12_readsStone_3 23 rfl) rfl rfl) ?_
            refine s_cb (sf := fun b => vI (bI b) :: []) (fun _ _ h => h_V (As := []) (iRow iCX12_readsStone_4 0 rfl) l12_325 iX12_closes ko_13 rfl rfl rfl rfl (t_X12_closes (d + 1) h) rfl (by omega) (by decide) (Nat.le_of_ble_eq_true rfl)) (fun b25 M24 => ?_)
            exact s_retz (iRow iCX12_readsStone_4 1 rfl) rfl rfl
          · refine s_ifeqb (g_if_eq (tgt := 138) (iRow iCX12_readsStone_2 23 rfl) (by decide)) (fun _ => ?_) (fun _ => ?_)
            · refine s_step (g_aload_n (iRow iCX12_readsStone_3 0 rfl) rfl rfl) ?_
              refine s_cv (stA := []) (fun _ h => h_V (As := []) (iRow iCX12_readsStone_3 1 rfl) l12_227 iX12_nextToken ko_13 rfl rfl rfl rfl (t_X12_nextToken (d + 2) h) rfl (by omega) (by decide) (Nat.le_of_ble_eq_true rfl)) (fun M18 => ?_)
              refine s_step (g_aload_n (iRow iCX12_readsStone_3 2 rfl) rfl rfl) ?_
              refine s_step (g_iload_n (iRow iCX12_readsStone_3 3 rfl) rfl rfl) ?_
              refine s_cb (sf := fun b => vI (bI b) :: []) (fun _ _ h => h_V (As := [_]) (iRow iCX12_readsStone_3 4 rfl) l12_331 iX12_readsOn ko_13 rfl rfl rfl rfl (t_X12_readsOn (d + 1) h) rfl (by omega) (by decide) (Nat.le_of_ble_eq_true rfl)) (fun b20 M19 => ?_)
              refine s_ifneb (g_if_ne (tgt := 138) (iRow iCX12_readsStone_3 5 rfl) (by decide)) (fun _ => ?_) (fun _ => ?_)
              · refine s_step (g_keep [true, true, false, true, false] rfl) ?_
                exact hj138 _
              · refine s_step (g_iconst (iRow iCX12_readsStone_3 6 rfl) kc_0) ?_
                exact s_retz (b := false) (iRow iCX12_readsStone_3 7 rfl) rfl rfl
            · refine s_step (g_keep [true, true, false, true, false] rfl) ?_
              exact hj138 _
        · refine s_step (g_iconst (iRow iCX12_readsStone_2 0 rfl) kc_0) ?_
          exact s_retz (b := false) (iRow iCX12_readsStone_2 1 rfl) rfl rfl
      · refine s_step (g_iconst (iRow iCX12_readsStone_1 10 rfl) kc_0) ?_
        exact s_retz (b := false) (iRow iCX12_readsStone_1 11 rfl) rfl rfl
    · refine s_step (g_iconst (iRow iCX12_readsStone_0 21 rfl) kc_0) ?_
      exact s_retz (b := false) (iRow iCX12_readsStone_0 22 rfl) rfl rfl
abbrev YX12_readsAge : mY := (RX12, "readsAge", cX12_readsAge, 1, (some .boolean), none)
set_option maxHeartbeats 400000 in
set_option maxRecDepth 20000 in
theorem t_X12_readsAge {G : mg} {F : Nat} {M : mm} {x : Bool} {M' : mm} (d : Nat) (h : m_X12_readsAge F M = some (x, M')) : CM G yX12_readsAge cX12_readsAge 1 (some .boolean) (d + 3) [vR 13 0] M (some (vI (bI x))) M' := by
  refine ct_z (ls := [some (vR 13 0)]) rfl rfl (Nat.le_of_ble_eq_true rfl) (fun Z => ?_) h
  show SW G (d + 3) YX12_readsAge Z 0 [some (vR 13 0)] [] M _ _
  unfold m_X12_readsAge
  refine s_step (g_aload_n (iRow iCX12_readsAge_0 0 rfl) rfl rfl) ?_
  refine s_step (g_getR (iRow iCX12_readsAge_0 1 rfl) f12_62 ko_13 (r_13_26 _ _)) ?_
  refine s_step (g_iconst (iRow iCX12_readsAge_0 2 rfl) kc_1) ?_
  refine s_gi (fun h => g_iald (iRow iCX12_readsAge_0 3 rfl) kn_80 ka_80 h) ?_
  refine s_step (g_aload_n (iRow iCX12_readsAge_0 4 rfl) rfl rfl) ?_
  refine s_step (g_getR (iRow iCX12_readsAge_0 5 rfl) f12_59 ko_13 (r_13_25 _ _)) ?_
  refine s_step (g_iconst (iRow iCX12_readsAge_0 6 rfl) kc_1) ?_
  refine s_gi (fun h => g_iald (iRow iCX12_readsAge_0 7 rfl) kn_79 ka_79 h) ?_
  refine s_if (g_icmp_le (tgt := 21) (iRow iCX12_readsAge_0 8 rfl) (by decide)) (fun _ => ?_) (fun _ => ?_)
  · refine s_step (g_aload_n (iRow iCX12_readsAge_0 13 rfl) rfl rfl) ?_
    refine s_cv (stA := []) (fun _ h => h_V (As := []) (iRow iCX12_readsAge_0 14 rfl) l12_227 iX12_nextToken ko_13 rfl rfl rfl rfl (t_X12_nextToken (d + 1) h) rfl (by omega) (by decide) (Nat.le_of_ble_eq_true rfl)) (fun M1 => ?_)
    refine s_step (g_aload_n (iRow iCX12_readsAge_0 15 rfl) rfl rfl) ?_
    refine s_step (g_getR (iRow iCX12_readsAge_0 16 rfl) f12_59 ko_13 (r_13_25 _ _)) ?_
    refine s_step (g_iconst (iRow iCX12_readsAge_0 17 rfl) kc_1) ?_
    refine s_step (g_aload_n (iRow iCX12_readsAge_0 18 rfl) rfl rfl) ?_
    refine s_step (g_getI (iRow iCX12_readsAge_0 19 rfl) f12_196 ko_13) ?_
    refine s_gi (fun h => g_iast (iRow iCX12_readsAge_0 20 rfl) kn_79 ka_79 h) ?_
    refine s_nmM (fun M2 => ?_)
    refine s_step (g_aload_n (iRow iCX12_readsAge_0 21 rfl) rfl rfl) ?_
    refine s_cb (sf := fun b => vI (bI b) :: []) (fun _ _ h => h_V (As := []) (iRow iCX12_readsAge_0 22 rfl) l12_334 iX12_reads ko_13 rfl rfl rfl rfl (t_X12_reads (d + 0) h) rfl (by omega) (by decide) (Nat.le_of_ble_eq_true rfl)) (fun b4 M3 => ?_)
    refine s_ifneb (g_if_ne (tgt := 44) (iRow iCX12_readsAge_0 23 rfl) (by decide)) (fun _ => ?_) (fun _ => ?_)
    · refine s_step (g_aload_n (iRow iCX12_readsAge_1 2 rfl) rfl rfl) ?_
      refine s_step (g_getR (iRow iCX12_readsAge_1 3 rfl) f12_62 ko_13 (r_13_26 _ _)) ?_
      refine s_step (g_iconst (iRow iCX12_readsAge_1 4 rfl) kc_1) ?_
      refine s_step (g_aload_n (iRow iCX12_readsAge_1 5 rfl) rfl rfl) ?_
      refine s_step (g_getI (iRow iCX12_readsAge_1 6 rfl) f12_196 ko_13) ?_
      refine s_gi (fun h => g_iast (iRow iCX12_readsAge_1 7 rfl) kn_80 ka_80 h) ?_
      refine s_nmM (fun M5 => ?_)
      refine s_step (g_iconst (iRow iCX12_readsAge_1 8 rfl) kc_1) ?_
      exact s_retz (b := true) (iRow iCX12_readsAge_1 9 rfl) rfl rfl
    · refine s_step (g_iconst (iRow iCX12_readsAge_1 0 rfl) kc_0) ?_
      exact s_retz (b := false) (iRow iCX12_readsAge_1 1 rfl) rfl rfl
  · refine s_step (g_aload_n (iRow iCX12_readsAge_0 9 rfl) rfl rfl) ?_
    refine s_step (g_iconst (iRow iCX12_readsAge_0 10 rfl) kc_3) ?_
    refine s_cb (sf := fun b => vI (bI b) :: []) (fun _ _ h => h_V (As := [_]) (iRow iCX12_readsAge_0 11 rfl) l12_221 iX12_fails ko_13 rfl rfl rfl rfl (t_X12_fails (d + 2) h) rfl (by omega) (by decide) (Nat.le_of_ble_eq_true rfl)) (fun b7 M6 => ?_)
    exact s_retz (iRow iCX12_readsAge_0 12 rfl) rfl rfl
abbrev YX12_readsMend : mY := (RX12, "readsMend", cX12_readsMend, 1, (some .boolean), none)
set_option maxHeartbeats 400000 in
set_option maxRecDepth 20000 in
theorem t_X12_readsMend {G : mg} {F : Nat} {M : mm} {x : Bool} {M' : mm} (d : Nat) (h : m_X12_readsMend F M = some (x, M')) : CM G yX12_readsMend cX12_readsMend 1 (some .boolean) (d + 3) [vR 13 0] M (some (vI (bI x))) M' := by
  refine ct_z (ls := [some (vR 13 0)]) rfl rfl (Nat.le_of_ble_eq_true rfl) (fun Z => ?_) h
  show SW G (d + 3) YX12_readsMend Z 0 [some (vR 13 0)] [] M _ _
  unfold m_X12_readsMend
  refine s_step (g_aload_n (iRow iCX12_readsMend_0 0 rfl) rfl rfl) ?_
  refine s_step (g_getZ (iRow iCX12_readsMend_0 1 rfl) f12_337 ko_13) ?_
  refine s_if (g_if_eq (tgt := 13) (iRow iCX12_readsMend_0 2 rfl) (by decide)) (fun _ => ?_) (fun _ => ?_)
  · refine s_step (g_aload_n (iRow iCX12_readsMend_0 7 rfl) rfl rfl) ?_
    refine s_step (g_iconst (iRow iCX12_readsMend_0 8 rfl) kc_1) ?_
    refine s_step (g_putZ (iRow iCX12_readsMend_0 9 rfl) f12_337 (Or.inl rfl) ko_13 (by decide)) ?_
    refine s_nmM (fun M1 => ?_)
    refine s_step (g_aload_n (iRow iCX12_readsMend_0 10 rfl) rfl rfl) ?_
    refine s_cv (stA := []) (fun _ h => h_V (As := []) (iRow iCX12_readsMend_0 11 rfl) l12_227 iX12_nextToken ko_13 rfl rfl rfl rfl (t_X12_nextToken (d + 1) h) rfl (by omega) (by decide) (Nat.le_of_ble_eq_true rfl)) (fun M2 => ?_)
    refine s_step (g_aload_n (iRow iCX12_readsMend_0 12 rfl) rfl rfl) ?_
    refine s_step (g_iconst (iRow iCX12_readsMend_0 13 rfl) kc_0) ?_
    refine s_step (g_bipush (iRow iCX12_readsMend_0 14 rfl) kb_10) ?_
    refine s_cb (sf := fun b => vI (bI b) :: []) (fun _ _ h => h_V (As := [_, _]) (iRow iCX12_readsMend_0 15 rfl) l12_301 iX12_needsNumber ko_13 rfl rfl rfl rfl (t_X12_needsNumber (d + 0) h) rfl (by omega) (by decide) (Nat.le_of_ble_eq_true rfl)) (fun b4 M3 => ?_)
    refine s_ifneb (g_if_ne (tgt := 34) (iRow iCX12_readsMend_0 16 rfl) (by decide)) (fun _ => ?_) (fun _ => ?_)
    · refine s_step (g_aload_n (iRow iCX12_readsMend_0 19 rfl) rfl rfl) ?_
      refine s_step (g_getR (iRow iCX12_readsMend_0 20 rfl) f12_13 ko_13 (r_13_10 _ _)) ?_
      refine s_step (g_bipush (iRow iCX12_readsMend_0 21 rfl) kb_9) ?_
      refine s_step (g_aload_n (iRow iCX12_readsMend_0 22 rfl) rfl rfl) ?_
      refine s_step (g_getI (iRow iCX12_readsMend_0 23 rfl) f12_295 ko_13) ?_
      refine s_gi (fun h => g_iast (iRow iCX12_readsMend_1 0 rfl) kn_64 ka_64 h) ?_
      refine s_nmM (fun M5 => ?_)
      refine s_step (g_aload_n (iRow iCX12_readsMend_1 1 rfl) rfl rfl) ?_
      refine s_cb (sf := fun b => vI (bI b) :: []) (fun _ _ h => h_V (As := []) (iRow iCX12_readsMend_1 2 rfl) l12_325 iX12_closes ko_13 rfl rfl rfl rfl (t_X12_closes (d + 0) h) rfl (by omega) (by decide) (Nat.le_of_ble_eq_true rfl)) (fun b7 M6 => ?_)
      exact s_retz (iRow iCX12_readsMend_1 3 rfl) rfl rfl
    · refine s_step (g_iconst (iRow iCX12_readsMend_0 17 rfl) kc_0) ?_
      exact s_retz (b := false) (iRow iCX12_readsMend_0 18 rfl) rfl rfl
  · refine s_step (g_aload_n (iRow iCX12_readsMend_0 3 rfl) rfl rfl) ?_
    refine s_step (g_iconst (iRow iCX12_readsMend_0 4 rfl) kc_3) ?_
    refine s_cb (sf := fun b => vI (bI b) :: []) (fun _ _ h => h_V (As := [_]) (iRow iCX12_readsMend_0 5 rfl) l12_221 iX12_fails ko_13 rfl rfl rfl rfl (t_X12_fails (d + 2) h) rfl (by omega) (by decide) (Nat.le_of_ble_eq_true rfl)) (fun b9 M8 => ?_)
    exact s_retz (iRow iCX12_readsMend_0 6 rfl) rfl rfl
abbrev YX12_starts : mY := (RX12, "starts", cX12_starts, 1, none, none)
set_option maxHeartbeats 400000 in
set_option maxRecDepth 20000 in
theorem t_X12_starts {G : mg} {F : Nat} {M : mm} {M' : mm} (d : Nat) (h : m_X12_starts F M = some M') : CM G yX12_starts cX12_starts 1 none (d + 2) [vR 13 0] M none M' := by
  refine ct_v (ls := [some (vR 13 0)]) rfl rfl (Nat.le_of_ble_eq_true rfl) (fun Z => ?_) h
  show SW G (d + 2) YX12_starts Z 0 [some (vR 13 0)] [] M _ _
  unfold m_X12_starts
  refine s_step (g_aload_n (iRow iCX12_starts_0 0 rfl) rfl rfl) ?_
  refine s_step (g_aload_n (iRow iCX12_starts_0 1 rfl) rfl rfl) ?_
  refine s_step (g_getI (iRow iCX12_starts_0 2 rfl) f12_163 ko_13) ?_
  refine s_step (g_putI (iRow iCX12_starts_0 3 rfl) f12_166 (Or.inl rfl) ko_13) ?_
  refine s_nmM (fun M1 => ?_)
  refine s_step (g_aload_n (iRow iCX12_starts_0 4 rfl) rfl rfl) ?_
  refine s_step (g_iconst (iRow iCX12_starts_0 5 rfl) kc_0) ?_
  refine s_step (g_putI (iRow iCX12_starts_0 6 rfl) f12_163 (Or.inl rfl) ko_13) ?_
  refine s_nmM (fun M2 => ?_)
  refine s_step (g_aload_n (iRow iCX12_starts_0 7 rfl) rfl rfl) ?_
  refine s_step (g_iconst (iRow iCX12_starts_0 8 rfl) kc_0) ?_
  refine s_step (g_putI (iRow iCX12_starts_0 9 rfl) f12_169 (Or.inl rfl) ko_13) ?_
  refine s_nmM (fun M3 => ?_)
  refine s_step (g_aload_n (iRow iCX12_starts_0 10 rfl) rfl rfl) ?_
  refine s_cv (stA := []) (fun _ h => h_V (As := []) (iRow iCX12_starts_0 11 rfl) l12_227 iX12_nextToken ko_13 rfl rfl rfl rfl (t_X12_nextToken (d + 0) h) rfl (by omega) (by decide) (Nat.le_of_ble_eq_true rfl)) (fun M4 => ?_)
  exact s_retv (iRow iCX12_starts_0 12 rfl) rfl
