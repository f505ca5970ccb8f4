abbrev YX12_readsAll : mY := (RX12, "readsAll", cX12_readsAll, 2, (some .boolean), none)
set_option maxHeartbeats 400000 in
set_option maxRecDepth 20000 in
theorem t_X12_readsAll {G : mg} {F : Nat} {M : mm} {x : Bool} {M' : mm} (d : Nat) (h : m_X12_readsAll F M = some (x, M')) : CM G yX12_readsAll cX12_readsAll 2 (some .boolean) (d + 5) [vR 13 0] M (some (vI (bI x))) M' := by
  refine ct_z (ls := [some (vR 13 0), none]) rfl rfl (Nat.le_of_ble_eq_true rfl) (fun Z => ?_) h
  show SW G (d + 5) YX12_readsAll Z 0 [some (vR 13 0), none] [] M _ _
  unfold m_X12_readsAll
  refine s_step (g_aload_n (iRow iCX12_readsAll_0 0 rfl) rfl rfl) ?_
  refine s_step (g_iconst (iRow iCX12_readsAll_0 1 rfl) kc_1) ?_
  refine s_cv (stA := []) (fun _ h => h_V (As := [_]) (iRow iCX12_readsAll_0 2 rfl) l12_153 iX12_plain ko_13 rfl rfl rfl rfl (t_X12_plain (d + 4) h) rfl (by omega) (by decide) (Nat.le_of_ble_eq_true rfl)) (fun M1 => ?_)
  refine s_step (g_aload_n (iRow iCX12_readsAll_0 3 rfl) rfl rfl) ?_
  refine s_step (g_iconst (iRow iCX12_readsAll_0 4 rfl) kc_0) ?_
  refine s_step (g_putZ (iRow iCX12_readsAll_0 5 rfl) f12_337 (Or.inl rfl) ko_13 (by decide)) ?_
  refine s_nmM (fun M2 => ?_)
  refine s_step (g_aload_n (iRow iCX12_readsAll_0 6 rfl) rfl rfl) ?_
  refine s_step (g_sipush (iRow iCX12_readsAll_0 7 rfl) ks_1000) ?_
  refine s_step (g_putI (iRow iCX12_readsAll_0 8 rfl) f12_196 (Or.inl rfl) ko_13) ?_
  refine s_nmM (fun M3 => ?_)
  refine s_step (g_aload_n (iRow iCX12_readsAll_0 9 rfl) rfl rfl) ?_
  refine s_cv (stA := []) (fun _ h => h_V (As := []) (iRow iCX12_readsAll_0 10 rfl) l12_341 iX12_starts ko_13 rfl rfl rfl rfl (t_X12_starts (d + 2) h) rfl (by omega) (by decide) (Nat.le_of_ble_eq_true rfl)) (fun M4 => ?_)
  refine s_lp (fun z => [some (vR 13 0), none]) (fun z => z) (Sum.elim (fun z => LM G (d + 5) YX12_readsAll Z 159 [none, none] [] z) (fun z => LM G (d + 5) YX12_readsAll Z 164 [none, none] [] z)) rfl rfl ?_ ?_
  · rintro M5
    show SW G (d + 5) YX12_readsAll Z 21 [some (vR 13 0), none] [] M5 (b_X12_readsAll_1c F M5) _
    unfold b_X12_readsAll_1c
    refine s_step (g_aload_n (iRow iCX12_readsAll_0 11 rfl) rfl rfl) ?_
    refine s_step (g_getI (iRow iCX12_readsAll_0 12 rfl) f12_182 ko_13) ?_
    refine s_if (g_if_eq (tgt := 164) (iRow iCX12_readsAll_0 13 rfl) (by decide)) (fun _ => ?_) (fun _ => ?_)
    · refine s_step (g_keep [false, false] rfl) ?_
      exact s_end (fun h => h)
    · refine s_step (g_aload_n (iRow iCX12_readsAll_0 14 rfl) rfl rfl) ?_
      refine s_step (g_ldc2 (iRow iCX12_readsAll_0 15 rfl) k12_243) ?_
      refine s_cb (sf := fun b => vI (bI b) :: []) (fun _ _ h => h_V (As := [_]) (iRow iCX12_readsAll_0 16 rfl) l12_213 iX12_isWord ko_13 rfl rfl rfl rfl (t_X12_isWord (d + 4) h) rfl (by omega) (by decide) (Nat.le_of_ble_eq_true rfl)) (fun b7 M6 => ?_)
      refine s_bd (fun z => LM G (d + 5) YX12_readsAll Z 154 [some (vR 13 0), none] [vI (z.1)] z.2) ?_ ?_
      · refine s_ifeqb (g_if_eq (tgt := 45) (iRow iCX12_readsAll_0 17 rfl) (by decide)) (fun _ => ?_) (fun _ => ?_)
        · refine s_step (g_aload_n (iRow iCX12_readsAll_0 18 rfl) rfl rfl) ?_
          refine s_cb (sf := fun b => vI (bI b) :: []) (fun _ _ h => h_V (As := []) (iRow iCX12_readsAll_0 19 rfl) l12_344 iX12_readsPerson ko_13 rfl rfl rfl rfl (t_X12_readsPerson (d + 0) h) rfl (by omega) (by decide) (Nat.le_of_ble_eq_true rfl)) (fun b35 M34 => ?_)
          refine s_step (g_goto (tgt := 154) (iRow iCX12_readsAll_0 20 rfl) (by decide)) ?_
          exact s_end (fun h => h)
        · refine s_step (g_aload_n (iRow iCX12_readsAll_0 21 rfl) rfl rfl) ?_
          refine s_step (g_ldc2 (iRow iCX12_readsAll_0 22 rfl) k12_249) ?_
          refine s_cb (sf := fun b => vI (bI b) :: []) (fun _ _ h => h_V (As := [_]) (iRow iCX12_readsAll_0 23 rfl) l12_213 iX12_isWord ko_13 rfl rfl rfl rfl (t_X12_isWord (d + 4) h) rfl (by omega) (by decide) (Nat.le_of_ble_eq_true rfl)) (fun b9 M8 => ?_)
          refine s_ifeqb (g_if_eq (tgt := 62) (iRow iCX12_readsAll_1 0 rfl) (by decide)) (fun _ => ?_) (fun _ => ?_)
          · refine s_step (g_aload_n (iRow iCX12_readsAll_1 1 rfl) rfl rfl) ?_
            refine s_cb (sf := fun b => vI (bI b) :: []) (fun _ _ h => h_V (As := []) (iRow iCX12_readsAll_1 2 rfl) l12_347 iX12_readsOath ko_13 rfl rfl rfl rfl (t_X12_readsOath (d + 0) h) rfl (by omega) (by decide) (Nat.le_of_ble_eq_true rfl)) (fun b33 M32 => ?_)
            refine s_step (g_goto (tgt := 154) (iRow iCX12_readsAll_1 3 rfl) (by decide)) ?_
            exact s_end (fun h => h)
          · refine s_step (g_aload_n (iRow iCX12_readsAll_1 4 rfl) rfl rfl) ?_
            refine s_step (g_ldc2 (iRow iCX12_readsAll_1 5 rfl) k12_255) ?_
            refine s_cb (sf := fun b => vI (bI b) :: []) (fun _ _ h => h_V (As := [_]) (iRow iCX12_readsAll_1 6 rfl) l12_213 iX12_isWord ko_13 rfl rfl rfl rfl (t_X12_isWord (d + 4) h) rfl (by omega) (by decide) (Nat.le_of_ble_eq_true rfl)) (fun b11 M10 => ?_)
            refine s_ifeqb (g_if_eq (tgt := 80) (iRow iCX12_readsAll_1 7 rfl) (by decide)) (fun _ => ?_) (fun _ => ?_)
            · refine s_step (g_aload_n (iRow iCX12_readsAll_1 8 rfl) rfl rfl) ?_
              refine s_step (g_iconst (iRow iCX12_readsAll_1 9 rfl) kc_1) ?_
              refine s_cb (sf := fun b => vI (bI b) :: []) (fun _ _ h => h_V (As := [_]) (iRow iCX12_readsAll_1 10 rfl) l12_350 iX12_readsPair ko_13 rfl rfl rfl rfl (t_X12_readsPair (d + 1) h) rfl (by omega) (by decide) (Nat.le_of_ble_eq_true rfl)) (fun b31 M30 => ?_)
              refine s_step (g_goto (tgt := 154) (iRow iCX12_readsAll_1 11 rfl) (by decide)) ?_
              exact s_end (fun h => h)
            · refine s_step (g_aload_n (iRow iCX12_readsAll_1 12 rfl) rfl rfl) ?_
              refine s_step (g_ldc2 (iRow iCX12_readsAll_1 13 rfl) k12_257) ?_
              refine s_cb (sf := fun b => vI (bI b) :: []) (fun _ _ h => h_V (As := [_]) (iRow iCX12_readsAll_1 14 rfl) l12_213 iX12_isWord ko_13 rfl rfl rfl rfl (t_X12_isWord (d + 4) h) rfl (by omega) (by decide) (Nat.le_of_ble_eq_true rfl)) (fun b13 M12 => ?_)
              refine s_ifeqb (g_if_eq (tgt := 98) (iRow iCX12_readsAll_1 15 rfl) (by decide)) (fun _ => ?_) (fun _ => ?_)
              · refine s_step (g_aload_n (iRow iCX12_readsAll_1 16 rfl) rfl rfl) ?_
                refine s_step (g_iconst (iRow iCX12_readsAll_1 17 rfl) kc_0) ?_
                refine s_cb (sf := fun b => vI (bI b) :: []) (fun _ _ h => h_V (As := [_]) (iRow iCX12_readsAll_1 18 rfl) l12_350 iX12_readsPair ko_13 rfl rfl rfl rfl (t_X12_readsPair (d + 1) h) rfl (by omega) (by decide) (Nat.le_of_ble_eq_true rfl)) (fun b29 M28 => ?_)
                refine s_step (g_goto (tgt := 154) (iRow iCX12_readsAll_1 19 rfl) (by decide)) ?_
                exact s_end (fun h => h)
              · refine s_step (g_aload_n (iRow iCX12_readsAll_1 20 rfl) rfl rfl) ?_
                refine s_step (g_ldc2 (iRow iCX12_readsAll_1 21 rfl) k12_259) ?_
                refine s_cb (sf := fun b => vI (bI b) :: []) (fun _ _ h => h_V (As := [_]) (iRow iCX12_readsAll_1 22 rfl) l12_213 iX12_isWord ko_13 rfl rfl rfl rfl (t_X12_isWord (d + 4) h) rfl (by omega) (by decide) (Nat.le_of_ble_eq_true rfl)) (fun b15 M14 => ?_)
                refine s_ifeqb (g_if_eq (tgt := 115) (iRow iCX12_readsAll_1 23 rfl) (by decide)) (fun _ => ?_) (fun _ => ?_)
                · refine s_step (g_aload_n (iRow iCX12_readsAll_2 0 rfl) rfl rfl) ?_
                  refine s_cb (sf := fun b => vI (bI b) :: []) (fun _ _ h => h_V (As := []) (iRow iCX12_readsAll_2 1 rfl) l12_354 iX12_readsStone ko_13 rfl rfl rfl rfl (t_X12_readsStone (d + 0) h) rfl (by omega) (by decide) (Nat.le_of_ble_eq_true rfl)) (fun b27 M26 => ?_)
                  refine s_step (g_goto (tgt := 154) (iRow iCX12_readsAll_2 2 rfl) (by decide)) ?_
                  exact s_end (fun h => h)
                · refine s_step (g_aload_n (iRow iCX12_readsAll_2 3 rfl) rfl rfl) ?_
                  refine s_step (g_ldc2 (iRow iCX12_readsAll_2 4 rfl) k12_267) ?_
                  refine s_cb (sf := fun b => vI (bI b) :: []) (fun _ _ h => h_V (As := [_]) (iRow iCX12_readsAll_2 5 rfl) l12_213 iX12_isWord ko_13 rfl rfl rfl rfl (t_X12_isWord (d + 4) h) rfl (by omega) (by decide) (Nat.le_of_ble_eq_true rfl)) (fun b17 M16 => ?_)
                  refine s_ifeqb (g_if_eq (tgt := 132) (iRow iCX12_readsAll_2 6 rfl) (by decide)) (fun _ => ?_) (fun _ => ?_)
                  · refine s_step (g_aload_n (iRow iCX12_readsAll_2 7 rfl) rfl rfl) ?_
                    refine s_cb (sf := fun b => vI (bI b) :: []) (fun _ _ h => h_V (As := []) (iRow iCX12_readsAll_2 8 rfl) l12_357 iX12_readsAge ko_13 rfl rfl rfl rfl (t_X12_readsAge (d + 1) h) rfl (by omega) (by decide) (Nat.le_of_ble_eq_true rfl)) (fun b25 M24 => ?_)
                    refine s_step (g_goto (tgt := 154) (iRow iCX12_readsAll_2 9 rfl) (by decide)) ?_
                    exact s_end (fun h => h)
                  · refine s_step (g_aload_n (iRow iCX12_readsAll_2 10 rfl) rfl rfl) ?_
                    refine s_step (g_ldc2 (iRow iCX12_readsAll_2 11 rfl) k12_269) ?_
                    refine s_cb (sf := fun b => vI (bI b) :: []) (fun _ _ h => h_V (As := [_]) (iRow iCX12_readsAll_2 12 rfl) l12_213 iX12_isWord ko_13 rfl rfl rfl rfl (t_X12_isWord (d + 4) h) rfl (by omega) (by decide) (Nat.le_of_ble_eq_true rfl)) (fun b19 M18 => ?_)
                    refine s_ifeqb (g_if_eq (tgt := 149) (iRow iCX12_readsAll_2 13 rfl) (by decide)) (fun _ => ?_) (fun _ => ?_)
                    · refine s_step (g_aload_n (iRow iCX12_readsAll_2 14 rfl) rfl rfl) ?_
                      refine s_cb (sf := fun b => vI (bI b) :: []) (fun _ _ h => h_V (As := []) (iRow iCX12_readsAll_2 15 rfl) l12_360 iX12_readsMend ko_13 rfl rfl rfl rfl (t_X12_readsMend (d + 1) h) rfl (by omega) (by decide) (Nat.le_of_ble_eq_true rfl)) (fun b23 M22 => ?_)
                      refine s_step (g_goto (tgt := 154) (iRow iCX12_readsAll_2 16 rfl) (by decide)) ?_
                      exact s_end (fun h => h)
                    · refine s_step (g_aload_n (iRow iCX12_readsAll_2 17 rfl) rfl rfl) ?_
                      refine s_step (g_iconst (iRow iCX12_readsAll_2 18 rfl) kc_1) ?_
                      refine s_cb (sf := fun b => vI (bI b) :: []) (fun _ _ h => h_V (As := [_]) (iRow iCX12_readsAll_2 19 rfl) l12_221 iX12_fails ko_13 rfl rfl rfl rfl (t_X12_fails (d + 4) h) rfl (by omega) (by decide) (Nat.le_of_ble_eq_true rfl)) (fun b21 M20 => ?_)
                      exact s_end (fun h => h)
      · rintro ⟨x36, M37⟩
        show SW G (d + 5) YX12_readsAll Z 154 [some (vR 13 0), none] [vI x36] M37 _ _
        try dsimp only
        refine s_step (g_istore_n (ls' := [some (vR 13 0), some (vI x36)]) (iRow iCX12_readsAll_2 20 rfl) rfl (by decide) rfl) ?_
        refine s_step (g_iload_n (iRow iCX12_readsAll_2 21 rfl) rfl rfl) ?_
        refine s_ifn (g_if_ne (tgt := 161) (iRow iCX12_readsAll_2 22 rfl) (by decide)) (fun _ => ?_) (fun _ => ?_)
        · refine s_step (g_keep [false, false] rfl) ?_
          exact s_end (fun h => h)
        · refine s_step (g_goto (tgt := 21) (iRow iCX12_readsAll_3 1 rfl) (by decide)) ?_
          refine s_step (g_keep [true, false] rfl) ?_
          exact s_end (fun h => h)
  · intro z
    rcases z with z | z
    · generalize z = M38
      show SW G (d + 5) YX12_readsAll Z 159 [none, none] [] M38 _ _
      try dsimp only [Sum.elim]
      refine s_step (g_iconst (iRow iCX12_readsAll_2 23 rfl) kc_0) ?_
      exact s_retz (b := false) (iRow iCX12_readsAll_3 0 rfl) rfl rfl
    · generalize z = M39
      show SW G (d + 5) YX12_readsAll Z 164 [none, none] [] M39 _ _
      try dsimp only [Sum.elim]
      refine s_step (g_iconst (iRow iCX12_readsAll_3 2 rfl) kc_1) ?_
      exact s_retz (b := true) (iRow iCX12_readsAll_3 3 rfl) rfl rfl
abbrev YX12_moves_64 : mY := (RX12, "moves", cX12_moves, 3, none, none)
set_option maxHeartbeats 400000 in
set_option maxRecDepth 20000 in
theorem t_X12_moves_64 {G : mg} {F : Nat} {a2 : Int32} {M : mm} {M' : mm} (d : Nat) (h : m_X12_moves_64 F a2 M = some M') : CM G yX12_moves cX12_moves 3 none (d + 0) [vR 64 0, vI a2] M none M' := by
  refine ct_v (ls := [some (vR 64 0), some (vI a2), none]) rfl rfl (Nat.le_of_ble_eq_true rfl) (fun Z => ?_) h
  show SW G (d + 0) YX12_moves_64 Z 0 [some (vR 64 0), some (vI a2), none] [] M _ _
  unfold m_X12_moves_64
  refine s_step (g_iconst (iRow iCX12_moves_0 0 rfl) kc_0) ?_
  refine s_step (g_istore_n (ls' := [some (vR 64 0), some (vI a2), some (vI (0 : Int32))]) (iRow iCX12_moves_0 1 rfl) rfl (by decide) rfl) ?_
  refine s_lp (fun z => [some (vR 64 0), some (vI a2), some (vI (z.1))]) (fun z => z.2) (fun z => LM G (d + 0) YX12_moves_64 Z 21 [none, none, none] [] z) rfl rfl ?_ ?_
  · rintro ⟨x1, M2⟩
    show SW G (d + 0) YX12_moves_64 Z 2 [some (vR 64 0), some (vI a2), some (vI x1)] [] M2 (b_X12_moves_64_1c F a2 x1 M2) _
    unfold b_X12_moves_64_1c
    refine s_step (g_iload_n (iRow iCX12_moves_0 2 rfl) rfl rfl) ?_
    refine s_step (g_iload_n (iRow iCX12_moves_0 3 rfl) rfl rfl) ?_
    refine s_if (g_icmp_ge (tgt := 21) (iRow iCX12_moves_0 4 rfl) (by decide)) (fun _ => ?_) (fun _ => ?_)
    · refine s_step (g_keep [false, false, false] rfl) ?_
      exact s_end (fun h => h)
    · refine s_step (g_aload_n (iRow iCX12_moves_0 5 rfl) rfl rfl) ?_
      refine s_step (g_iload_n (iRow iCX12_moves_0 6 rfl) rfl rfl) ?_
      refine s_step (g_aload_n (iRow iCX12_moves_0 7 rfl) rfl rfl) ?_
      refine s_step (g_iload_n (iRow iCX12_moves_0 8 rfl) rfl rfl) ?_
      refine s_step (g_iload_n (iRow iCX12_moves_0 9 rfl) rfl rfl) ?_
      refine s_step (g_iadd (iRow iCX12_moves_0 10 rfl)) ?_
      refine s_gi (fun h => g_iald (iRow iCX12_moves_0 11 rfl) kn_64 ka_64 h) ?_
      refine s_gi (fun h => g_iast (iRow iCX12_moves_0 12 rfl) kn_64 ka_64 h) ?_
      refine s_nmM (fun M3 => ?_)
      refine s_step (g_iincc (c := 1) (ls' := [some (vR 64 0), some (vI a2), some (vI (x1 + (1 : Int32)))]) (iRow iCX12_moves_0 13 rfl) rfl kc_1 (by decide) rfl) ?_
      refine s_step (g_goto (tgt := 2) (iRow iCX12_moves_0 14 rfl) (by decide)) ?_
      exact s_end (fun h => h)
  · rintro M4
    show SW G (d + 0) YX12_moves_64 Z 21 [none, none, none] [] M4 _ _
    try dsimp only
    exact s_retv (iRow iCX12_moves_0 15 rfl) rfl
abbrev YX12_movesNames_65 : mY := (RX12, "movesNames", cX12_movesNames, 3, none, none)
set_option maxHeartbeats 400000 in
set_option maxRecDepth 20000 in
theorem t_X12_movesNames_65 {G : mg} {F : Nat} {a2 : Int32} {M : mm} {M' : mm} (d : Nat) (h : m_X12_movesNames_65 F a2 M = some M') : CM G yX12_movesNames cX12_movesNames 3 none (d + 0) [vR 65 0, vI a2] M none M' := by
  refine ct_v (ls := [some (vR 65 0), some (vI a2), none]) rfl rfl (Nat.le_of_ble_eq_true rfl) (fun Z => ?_) h
  show SW G (d + 0) YX12_movesNames_65 Z 0 [some (vR 65 0), some (vI a2), none] [] M _ _
  unfold m_X12_movesNames_65
  refine s_step (g_iconst (iRow iCX12_movesNames_0 0 rfl) kc_0) ?_
  refine s_step (g_istore_n (ls' := [some (vR 65 0), some (vI a2), some (vI (0 : Int32))]) (iRow iCX12_movesNames_0 1 rfl) rfl (by decide) rfl) ?_
  refine s_lp (fun z => [some (vR 65 0), some (vI a2), some (vI (z.1))]) (fun z => z.2) (fun z => LM G (d + 0) YX12_movesNames_65 Z 21 [none, none, none] [] z) rfl rfl ?_ ?_
  · rintro ⟨x1, M2⟩
    show SW G (d + 0) YX12_movesNames_65 Z 2 [some (vR 65 0), some (vI a2), some (vI x1)] [] M2 (b_X12_movesNames_65_1c F a2 x1 M2) _
    unfold b_X12_movesNames_65_1c
    refine s_step (g_iload_n (iRow iCX12_movesNames_0 2 rfl) rfl rfl) ?_
    refine s_step (g_iload_n (iRow iCX12_movesNames_0 3 rfl) rfl rfl) ?_
    refine s_if (g_icmp_ge (tgt := 21) (iRow iCX12_movesNames_0 4 rfl) (by decide)) (fun _ => ?_) (fun _ => ?_)
    · refine s_step (g_keep [false, false, false] rfl) ?_
      exact s_end (fun h => h)
    · refine s_step (g_aload_n (iRow iCX12_movesNames_0 5 rfl) rfl rfl) ?_
      refine s_step (g_iload_n (iRow iCX12_movesNames_0 6 rfl) rfl rfl) ?_
      refine s_step (g_aload_n (iRow iCX12_movesNames_0 7 rfl) rfl rfl) ?_
      refine s_step (g_iload_n (iRow iCX12_movesNames_0 8 rfl) rfl rfl) ?_
      refine s_step (g_iload_n (iRow iCX12_movesNames_0 9 rfl) rfl rfl) ?_
      refine s_step (g_iadd (iRow iCX12_movesNames_0 10 rfl)) ?_
      refine s_gi (fun h => g_lald (iRow iCX12_movesNames_0 11 rfl) kn_65 ka_65 h) ?_
      refine s_gi (fun h => g_last (iRow iCX12_movesNames_0 12 rfl) kn_65 ka_65 h) ?_
      refine s_nmM (fun M3 => ?_)
      refine s_step (g_iincc (c := 1) (ls' := [some (vR 65 0), some (vI a2), some (vI (x1 + (1 : Int32)))]) (iRow iCX12_movesNames_0 13 rfl) rfl kc_1 (by decide) rfl) ?_
      refine s_step (g_goto (tgt := 2) (iRow iCX12_movesNames_0 14 rfl) (by decide)) ?_
      exact s_end (fun h => h)
  · rintro M4
    show SW G (d + 0) YX12_movesNames_65 Z 21 [none, none, none] [] M4 _ _
    try dsimp only
    exact s_retv (iRow iCX12_movesNames_0 15 rfl) rfl
abbrev YX12_movesNames_66 : mY := (RX12, "movesNames", cX12_movesNames, 3, none, none)
set_option maxHeartbeats 400000 in
set_option maxRecDepth 20000 in
theorem t_X12_movesNames_66 {G : mg} {F : Nat} {a2 : Int32} {M : mm} {M' : mm} (d : Nat) (h : m_X12_movesNames_66 F a2 M = some M') : CM G yX12_movesNames cX12_movesNames 3 none (d + 0) [vR 66 0, vI a2] M none M' := by
  refine ct_v (ls := [some (vR 66 0), some (vI a2), none]) rfl rfl (Nat.le_of_ble_eq_true rfl) (fun Z => ?_) h
  show SW G (d + 0) YX12_movesNames_66 Z 0 [some (vR 66 0), some (vI a2), none] [] M _ _
  unfold m_X12_movesNames_66
  refine s_step (g_iconst (iRow iCX12_movesNames_0 0 rfl) kc_0) ?_
  refine s_step (g_istore_n (ls' := [some (vR 66 0), some (vI a2), some (vI (0 : Int32))]) (iRow iCX12_movesNames_0 1 rfl) rfl (by decide) rfl) ?_
  refine s_lp (fun z => [some (vR 66 0), some (vI a2), some (vI (z.1))]) (fun z => z.2) (fun z => LM G (d + 0) YX12_movesNames_66 Z 21 [none, none, none] [] z) rfl rfl ?_ ?_
  · rintro ⟨x1, M2⟩
    show SW G (d + 0) YX12_movesNames_66 Z 2 [some (vR 66 0), some (vI a2), some (vI x1)] [] M2 (b_X12_movesNames_66_1c F a2 x1 M2) _
    unfold b_X12_movesNames_66_1c
    refine s_step (g_iload_n (iRow iCX12_movesNames_0 2 rfl) rfl rfl) ?_
    refine s_step (g_iload_n (iRow iCX12_movesNames_0 3 rfl) rfl rfl) ?_
    refine s_if (g_icmp_ge (tgt := 21) (iRow iCX12_movesNames_0 4 rfl) (by decide)) (fun _ => ?_) (fun _ => ?_)
    · refine s_step (g_keep [false, false, false] rfl) ?_
      exact s_end (fun h => h)
    · refine s_step (g_aload_n (iRow iCX12_movesNames_0 5 rfl) rfl rfl) ?_
      refine s_step (g_iload_n (iRow iCX12_movesNames_0 6 rfl) rfl rfl) ?_
      refine s_step (g_aload_n (iRow iCX12_movesNames_0 7 rfl) rfl rfl) ?_
      refine s_step (g_iload_n (iRow iCX12_movesNames_0 8 rfl) rfl rfl) ?_
      refine s_step (g_iload_n (iRow iCX12_movesNames_0 9 rfl) rfl rfl) ?_
      refine s_step (g_iadd (iRow iCX12_movesNames_0 10 rfl)) ?_
      refine s_gi (fun h => g_lald (iRow iCX12_movesNames_0 11 rfl) kn_66 ka_66 h) ?_
      refine s_gi (fun h => g_last (iRow iCX12_movesNames_0 12 rfl) kn_66 ka_66 h) ?_
      refine s_nmM (fun M3 => ?_)
      refine s_step (g_iincc (c := 1) (ls' := [some (vR 66 0), some (vI a2), some (vI (x1 + (1 : Int32)))]) (iRow iCX12_movesNames_0 13 rfl) rfl kc_1 (by decide) rfl) ?_
      refine s_step (g_goto (tgt := 2) (iRow iCX12_movesNames_0 14 rfl) (by decide)) ?_
      exact s_end (fun h => h)
  · rintro M4
    show SW G (d + 0) YX12_movesNames_66 Z 21 [none, none, none] [] M4 _ _
    try dsimp only
    exact s_retv (iRow iCX12_movesNames_0 15 rfl) rfl
abbrev YX12_movesNames_67 : mY := (RX12, "movesNames", cX12_movesNames, 3, none, none)
set_option maxHeartbeats 400000 in
set_option maxRecDepth 20000 in
theorem t_X12_movesNames_67 {G : mg} {F : Nat} {a2 : Int32} {M : mm} {M' : mm} (d : Nat) (h : m_X12_movesNames_67 F a2 M = some M') : CM G yX12_movesNames cX12_movesNames 3 none (d + 0) [vR 67 0, vI a2] M none M' := by
  refine ct_v (ls := [some (vR 67 0), some (vI a2), none]) rfl rfl (Nat.le_of_ble_eq_true rfl) (fun Z => ?_) h
  show SW G (d + 0) YX12_movesNames_67 Z 0 [some (vR 67 0), some (vI a2), none] [] M _ _
  unfold m_X12_movesNames_67
  refine s_step (g_iconst (iRow iCX12_movesNames_0 0 rfl) kc_0) ?_
  refine s_step (g_istore_n (ls' := [some (vR 67 0), some (vI a2), some (vI (0 : Int32))]) (iRow iCX12_movesNames_0 1 rfl) rfl (by decide) rfl) ?_
  refine s_lp (fun z => [some (vR 67 0), some (vI a2), some (vI (z.1))]) (fun z => z.2) (fun z => LM G (d + 0) YX12_movesNames_67 Z 21 [none, none, none] [] z) rfl rfl ?_ ?_
  · rintro ⟨x1, M2⟩
    show SW G (d + 0) YX12_movesNames_67 Z 2 [some (vR 67 0), some (vI a2), some (vI x1)] [] M2 (b_X12_movesNames_67_1c F a2 x1 M2) _
    unfold b_X12_movesNames_67_1c
    refine s_step (g_iload_n (iRow iCX12_movesNames_0 2 rfl) rfl rfl) ?_
    refine s_step (g_iload_n (iRow iCX12_movesNames_0 3 rfl) rfl rfl) ?_
    refine s_if (g_icmp_ge (tgt := 21) (iRow iCX12_movesNames_0 4 rfl) (by decide)) (fun _ => ?_) (fun _ => ?_)
    · refine s_step (g_keep [false, false, false] rfl) ?_
      exact s_end (fun h => h)
    · refine s_step (g_aload_n (iRow iCX12_movesNames_0 5 rfl) rfl rfl) ?_
      refine s_step (g_iload_n (iRow iCX12_movesNames_0 6 rfl) rfl rfl) ?_
      refine s_step (g_aload_n (iRow iCX12_movesNames_0 7 rfl) rfl rfl) ?_
      refine s_step (g_iload_n (iRow iCX12_movesNames_0 8 rfl) rfl rfl) ?_
      refine s_step (g_iload_n (iRow iCX12_movesNames_0 9 rfl) rfl rfl) ?_
      refine s_step (g_iadd (iRow iCX12_movesNames_0 10 rfl)) ?_
      refine s_gi (fun h => g_lald (iRow iCX12_movesNames_0 11 rfl) kn_67 ka_67 h) ?_
      refine s_gi (fun h => g_last (iRow iCX12_movesNames_0 12 rfl) kn_67 ka_67 h) ?_
      refine s_nmM (fun M3 => ?_)
      refine s_step (g_iincc (c := 1) (ls' := [some (vR 67 0), some (vI a2), some (vI (x1 + (1 : Int32)))]) (iRow iCX12_movesNames_0 13 rfl) rfl kc_1 (by decide) rfl) ?_
      refine s_step (g_goto (tgt := 2) (iRow iCX12_movesNames_0 14 rfl) (by decide)) ?_
      exact s_end (fun h => h)
  · rintro M4
    show SW G (d + 0) YX12_movesNames_67 Z 21 [none, none, none] [] M4 _ _
    try dsimp only
    exact s_retv (iRow iCX12_movesNames_0 15 rfl) rfl
abbrev YX12_moves_68 : mY := (RX12, "moves", cX12_moves, 3, none, none)
set_option maxHeartbeats 400000 in
set_option maxRecDepth 20000 in
theorem t_X12_moves_68 {G : mg} {F : Nat} {a2 : Int32} {M : mm} {M' : mm} (d : Nat) (h : m_X12_moves_68 F a2 M = some M') : CM G yX12_moves cX12_moves 3 none (d + 0) [vR 68 0, vI a2] M none M' := by
  refine ct_v (ls := [some (vR 68 0), some (vI a2), none]) rfl rfl (Nat.le_of_ble_eq_true rfl) (fun Z => ?_) h
  show SW G (d + 0) YX12_moves_68 Z 0 [some (vR 68 0), some (vI a2), none] [] M _ _
  unfold m_X12_moves_68
  refine s_step (g_iconst (iRow iCX12_moves_0 0 rfl) kc_0) ?_
  refine s_step (g_istore_n (ls' := [some (vR 68 0), some (vI a2), some (vI (0 : Int32))]) (iRow iCX12_moves_0 1 rfl) rfl (by decide) rfl) ?_
  refine s_lp (fun z => [some (vR 68 0), some (vI a2), some (vI (z.1))]) (fun z => z.2) (fun z => LM G (d + 0) YX12_moves_68 Z 21 [none, none, none] [] z) rfl rfl ?_ ?_
  · rintro ⟨x1, M2⟩
    show SW G (d + 0) YX12_moves_68 Z 2 [some (vR 68 0), some (vI a2), some (vI x1)] [] M2 (b_X12_moves_68_1c F a2 x1 M2) _
    unfold b_X12_moves_68_1c
    refine s_step (g_iload_n (iRow iCX12_moves_0 2 rfl) rfl rfl) ?_
    refine s_step (g_iload_n (iRow iCX12_moves_0 3 rfl) rfl rfl) ?_
    refine s_if (g_icmp_ge (tgt := 21) (iRow iCX12_moves_0 4 rfl) (by decide)) (fun _ => ?_) (fun _ => ?_)
    · refine s_step (g_keep [false, false, false] rfl) ?_
      exact s_end (fun h => h)
    · refine s_step (g_aload_n (iRow iCX12_moves_0 5 rfl) rfl rfl) ?_
      refine s_step (g_iload_n (iRow iCX12_moves_0 6 rfl) rfl rfl) ?_
      refine s_step (g_aload_n (iRow iCX12_moves_0 7 rfl) rfl rfl) ?_
      refine s_step (g_iload_n (iRow iCX12_moves_0 8 rfl) rfl rfl) ?_
      refine s_step (g_iload_n (iRow iCX12_moves_0 9 rfl) rfl rfl) ?_
      refine s_step (g_iadd (iRow iCX12_moves_0 10 rfl)) ?_
      refine s_gi (fun h => g_iald (iRow iCX12_moves_0 11 rfl) kn_68 ka_68 h) ?_
      refine s_gi (fun h => g_iast (iRow iCX12_moves_0 12 rfl) kn_68 ka_68 h) ?_
      refine s_nmM (fun M3 => ?_)
      refine s_step (g_iincc (c := 1) (ls' := [some (vR 68 0), some (vI a2), some (vI (x1 + (1 : Int32)))]) (iRow iCX12_moves_0 13 rfl) rfl kc_1 (by decide) rfl) ?_
      refine s_step (g_goto (tgt := 2) (iRow iCX12_moves_0 14 rfl) (by decide)) ?_
      exact s_end (fun h => h)
  · rintro M4
    show SW G (d + 0) YX12_moves_68 Z 21 [none, none, none] [] M4 _ _
    try dsimp only
    exact s_retv (iRow iCX12_moves_0 15 rfl) rfl
abbrev YX12_moves_69 : mY := (RX12, "moves", cX12_moves, 3, none, none)
set_option maxHeartbeats 400000 in
set_option maxRecDepth 20000 in
theorem t_X12_moves_69 {G : mg} {F : Nat} {a2 : Int32} {M : mm} {M' : mm} (d : Nat) (h : m_X12_moves_69 F a2 M = some M') : CM G yX12_moves cX12_moves 3 none (d + 0) [vR 69 0, vI a2] M none M' := by
  refine ct_v (ls := [some (vR 69 0), some (vI a2), none]) rfl rfl (Nat.le_of_ble_eq_true rfl) (fun Z => ?_) h
  show SW G (d + 0) YX12_moves_69 Z 0 [some (vR 69 0), some (vI a2), none] [] M _ _
  unfold m_X12_moves_69
  refine s_step (g_iconst (iRow iCX12_moves_0 0 rfl) kc_0) ?_
  refine s_step (g_istore_n (ls' := [some (vR 69 0), some (vI a2), some (vI (0 : Int32))]) (iRow iCX12_moves_0 1 rfl) rfl (by decide) rfl) ?_
  refine s_lp (fun z => [some (vR 69 0), some (vI a2), some (vI (z.1))]) (fun z => z.2) (fun z => LM G (d + 0) YX12_moves_69 Z 21 [none, none, none] [] z) rfl rfl ?_ ?_
  · rintro ⟨x1, M2⟩
    show SW G (d + 0) YX12_moves_69 Z 2 [some (vR 69 0), some (vI a2), some (vI x1)] [] M2 (b_X12_moves_69_1c F a2 x1 M2) _
    unfold b_X12_moves_69_1c
    refine s_step (g_iload_n (iRow iCX12_moves_0 2 rfl) rfl rfl) ?_
    refine s_step (g_iload_n (iRow iCX12_moves_0 3 rfl) rfl rfl) ?_
    refine s_if (g_icmp_ge (tgt := 21) (iRow iCX12_moves_0 4 rfl) (by decide)) (fun _ => ?_) (fun _ => ?_)
    · refine s_step (g_keep [false, false, false] rfl) ?_
      exact s_end (fun h => h)
    · refine s_step (g_aload_n (iRow iCX12_moves_0 5 rfl) rfl rfl) ?_
      refine s_step (g_iload_n (iRow iCX12_moves_0 6 rfl) rfl rfl) ?_
      refine s_step (g_aload_n (iRow iCX12_moves_0 7 rfl) rfl rfl) ?_
      refine s_step (g_iload_n (iRow iCX12_moves_0 8 rfl) rfl rfl) ?_
      refine s_step (g_iload_n (iRow iCX12_moves_0 9 rfl) rfl rfl) ?_
      refine s_step (g_iadd (iRow iCX12_moves_0 10 rfl)) ?_
      refine s_gi (fun h => g_iald (iRow iCX12_moves_0 11 rfl) kn_69 ka_69 h) ?_
      refine s_gi (fun h => g_iast (iRow iCX12_moves_0 12 rfl) kn_69 ka_69 h) ?_
      refine s_nmM (fun M3 => ?_)
      refine s_step (g_iincc (c := 1) (ls' := [some (vR 69 0), some (vI a2), some (vI (x1 + (1 : Int32)))]) (iRow iCX12_moves_0 13 rfl) rfl kc_1 (by decide) rfl) ?_
      refine s_step (g_goto (tgt := 2) (iRow iCX12_moves_0 14 rfl) (by decide)) ?_
      exact s_end (fun h => h)
  · rintro M4
    show SW G (d + 0) YX12_moves_69 Z 21 [none, none, none] [] M4 _ _
    try dsimp only
    exact s_retv (iRow iCX12_moves_0 15 rfl) rfl
abbrev YX12_moves_70 : mY := (RX12, "moves", cX12_moves, 3, none, none)
set_option maxHeartbeats 400000 in
set_option maxRecDepth 20000 in
theorem t_X12_moves_70 {G : mg} {F : Nat} {a2 : Int32} {M : mm} {M' : mm} (d : Nat) (h : m_X12_moves_70 F a2 M = some M') : CM G yX12_moves cX12_moves 3 none (d + 0) [vR 70 0, vI a2] M none M' := by
  refine ct_v (ls := [some (vR 70 0), some (vI a2), none]) rfl rfl (Nat.le_of_ble_eq_true rfl) (fun Z => ?_) h
  show SW G (d + 0) YX12_moves_70 Z 0 [some (vR 70 0), some (vI a2), none] [] M _ _
  unfold m_X12_moves_70
  refine s_step (g_iconst (iRow iCX12_moves_0 0 rfl) kc_0) ?_
  refine s_step (g_istore_n (ls' := [some (vR 70 0), some (vI a2), some (vI (0 : Int32))]) (iRow iCX12_moves_0 1 rfl) rfl (by decide) rfl) ?_
  refine s_lp (fun z => [some (vR 70 0), some (vI a2), some (vI (z.1))]) (fun z => z.2) (fun z => LM G (d + 0) YX12_moves_70 Z 21 [none, none, none] [] z) rfl rfl ?_ ?_
  · rintro ⟨x1, M2⟩
    show SW G (d + 0) YX12_moves_70 Z 2 [some (vR 70 0), some (vI a2), some (vI x1)] [] M2 (b_X12_moves_70_1c F a2 x1 M2) _
    unfold b_X12_moves_70_1c
    refine s_step (g_iload_n (iRow iCX12_moves_0 2 rfl) rfl rfl) ?_
    refine s_step (g_iload_n (iRow iCX12_moves_0 3 rfl) rfl rfl) ?_
    refine s_if (g_icmp_ge (tgt := 21) (iRow iCX12_moves_0 4 rfl) (by decide)) (fun _ => ?_) (fun _ => ?_)
    · refine s_step (g_keep [false, false, false] rfl) ?_
      exact s_end (fun h => h)
    · refine s_step (g_aload_n (iRow iCX12_moves_0 5 rfl) rfl rfl) ?_
      refine s_step (g_iload_n (iRow iCX12_moves_0 6 rfl) rfl rfl) ?_
      refine s_step (g_aload_n (iRow iCX12_moves_0 7 rfl) rfl rfl) ?_
      refine s_step (g_iload_n (iRow iCX12_moves_0 8 rfl) rfl rfl) ?_
      refine s_step (g_iload_n (iRow iCX12_moves_0 9 rfl) rfl rfl) ?_
      refine s_step (g_iadd (iRow iCX12_moves_0 10 rfl)) ?_
      refine s_gi (fun h => g_iald (iRow iCX12_moves_0 11 rfl) kn_70 ka_70 h) ?_
      refine s_gi (fun h => g_iast (iRow iCX12_moves_0 12 rfl) kn_70 ka_70 h) ?_
      refine s_nmM (fun M3 => ?_)
      refine s_step (g_iincc (c := 1) (ls' := [some (vR 70 0), some (vI a2), some (vI (x1 + (1 : Int32)))]) (iRow iCX12_moves_0 13 rfl) rfl kc_1 (by decide) rfl) ?_
      refine s_step (g_goto (tgt := 2) (iRow iCX12_moves_0 14 rfl) (by decide)) ?_
      exact s_end (fun h => h)
  · rintro M4
    show SW G (d + 0) YX12_moves_70 Z 21 [none, none, none] [] M4 _ _
    try dsimp only
    exact s_retv (iRow iCX12_moves_0 15 rfl) rfl
abbrev YX12_moves_71 : mY := (RX12, "moves", cX12_moves, 3, none, none)
set_option maxHeartbeats 400000 in
set_option maxRecDepth 20000 in
theorem t_X12_moves_71 {G : mg} {F : Nat} {a2 : Int32} {M : mm} {M' : mm} (d : Nat) (h : m_X12_moves_71 F a2 M = some M') : CM G yX12_moves cX12_moves 3 none (d + 0) [vR 71 0, vI a2] M none M' := by
  refine ct_v (ls := [some (vR 71 0), some (vI a2), none]) rfl rfl (Nat.le_of_ble_eq_true rfl) (fun Z => ?_) h
  show SW G (d + 0) YX12_moves_71 Z 0 [some (vR 71 0), some (vI a2), none] [] M _ _
  unfold m_X12_moves_71
  refine s_step (g_iconst (iRow iCX12_moves_0 0 rfl) kc_0) ?_
  refine s_step (g_istore_n (ls' := [some (vR 71 0), some (vI a2), some (vI (0 : Int32))]) (iRow iCX12_moves_0 1 rfl) rfl (by decide) rfl) ?_
  refine s_lp (fun z => [some (vR 71 0), some (vI a2), some (vI (z.1))]) (fun z => z.2) (fun z => LM G (d + 0) YX12_moves_71 Z 21 [none, none, none] [] z) rfl rfl ?_ ?_
  · rintro ⟨x1, M2⟩
    show SW G (d + 0) YX12_moves_71 Z 2 [some (vR 71 0), some (vI a2), some (vI x1)] [] M2 (b_X12_moves_71_1c F a2 x1 M2) _
    unfold b_X12_moves_71_1c
    refine s_step (g_iload_n (iRow iCX12_moves_0 2 rfl) rfl rfl) ?_
    refine s_step (g_iload_n (iRow iCX12_moves_0 3 rfl) rfl rfl) ?_
    refine s_if (g_icmp_ge (tgt := 21) (iRow iCX12_moves_0 4 rfl) (by decide)) (fun _ => ?_) (fun _ => ?_)
    · refine s_step (g_keep [false, false, false] rfl) ?_
      exact s_end (fun h => h)
    · refine s_step (g_aload_n (iRow iCX12_moves_0 5 rfl) rfl rfl) ?_
      refine s_step (g_iload_n (iRow iCX12_moves_0 6 rfl) rfl rfl) ?_
      refine s_step (g_aload_n (iRow iCX12_moves_0 7 rfl) rfl rfl) ?_
      refine s_step (g_iload_n (iRow iCX12_moves_0 8 rfl) rfl rfl) ?_
      refine s_step (g_iload_n (iRow iCX12_moves_0 9 rfl) rfl rfl) ?_
      refine s_step (g_iadd (iRow iCX12_moves_0 10 rfl)) ?_
      refine s_gi (fun h => g_iald (iRow iCX12_moves_0 11 rfl) kn_71 ka_71 h) ?_
      refine s_gi (fun h => g_iast (iRow iCX12_moves_0 12 rfl) kn_71 ka_71 h) ?_
      refine s_nmM (fun M3 => ?_)
      refine s_step (g_iincc (c := 1) (ls' := [some (vR 71 0), some (vI a2), some (vI (x1 + (1 : Int32)))]) (iRow iCX12_moves_0 13 rfl) rfl kc_1 (by decide) rfl) ?_
      refine s_step (g_goto (tgt := 2) (iRow iCX12_moves_0 14 rfl) (by decide)) ?_
      exact s_end (fun h => h)
  · rintro M4
    show SW G (d + 0) YX12_moves_71 Z 21 [none, none, none] [] M4 _ _
    try dsimp only
    exact s_retv (iRow iCX12_moves_0 15 rfl) rfl
abbrev YX12_moves_72 : mY := (RX12, "moves", cX12_moves, 3, none, none)
set_option maxHeartbeats 400000 in
set_option maxRecDepth 20000 in
theorem t_X12_moves_72 {G : mg} {F : Nat} {a2 : Int32} {M : mm} {M' : mm} (d : Nat) (h : m_X12_moves_72 F a2 M = some M') : CM G yX12_moves cX12_moves 3 none (d + 0) [vR 72 0, vI a2] M none M' := by
  refine ct_v (ls := [some (vR 72 0), some (vI a2), none]) rfl rfl (Nat.le_of_ble_eq_true rfl) (fun Z => ?_) h
  show SW G (d + 0) YX12_moves_72 Z 0 [some (vR 72 0), some (vI a2), none] [] M _ _
  unfold m_X12_moves_72
  refine s_step (g_iconst (iRow iCX12_moves_0 0 rfl) kc_0) ?_
  refine s_step (g_istore_n (ls' := [some (vR 72 0), some (vI a2), some (vI (0 : Int32))]) (iRow iCX12_moves_0 1 rfl) rfl (by decide) rfl) ?_
  refine s_lp (fun z => [some (vR 72 0), some (vI a2), some (vI (z.1))]) (fun z => z.2) (fun z => LM G (d + 0) YX12_moves_72 Z 21 [none, none, none] [] z) rfl rfl ?_ ?_
  · rintro ⟨x1, M2⟩
    show SW G (d + 0) YX12_moves_72 Z 2 [some (vR 72 0), some (vI a2), some (vI x1)] [] M2 (b_X12_moves_72_1c F a2 x1 M2) _
    unfold b_X12_moves_72_1c
    refine s_step (g_iload_n (iRow iCX12_moves_0 2 rfl) rfl rfl) ?_
    refine s_step (g_iload_n (iRow iCX12_moves_0 3 rfl) rfl rfl) ?_
    refine s_if (g_icmp_ge (tgt := 21) (iRow iCX12_moves_0 4 rfl) (by decide)) (fun _ => ?_) (fun _ => ?_)
    · refine s_step (g_keep [false, false, false] rfl) ?_
      exact s_end (fun h => h)
    · refine s_step (g_aload_n (iRow iCX12_moves_0 5 rfl) rfl rfl) ?_
      refine s_step (g_iload_n (iRow iCX12_moves_0 6 rfl) rfl rfl) ?_
      refine s_step (g_aload_n (iRow iCX12_moves_0 7 rfl) rfl rfl) ?_
      refine s_step (g_iload_n (iRow iCX12_moves_0 8 rfl) rfl rfl) ?_
      refine s_step (g_iload_n (iRow iCX12_moves_0 9 rfl) rfl rfl) ?_
      refine s_step (g_iadd (iRow iCX12_moves_0 10 rfl)) ?_
      refine s_gi (fun h => g_iald (iRow iCX12_moves_0 11 rfl) kn_72 ka_72 h) ?_
      refine s_gi (fun h => g_iast (iRow iCX12_moves_0 12 rfl) kn_72 ka_72 h) ?_
      refine s_nmM (fun M3 => ?_)
      refine s_step (g_iincc (c := 1) (ls' := [some (vR 72 0), some (vI a2), some (vI (x1 + (1 : Int32)))]) (iRow iCX12_moves_0 13 rfl) rfl kc_1 (by decide) rfl) ?_
      refine s_step (g_goto (tgt := 2) (iRow iCX12_moves_0 14 rfl) (by decide)) ?_
      exact s_end (fun h => h)
  · rintro M4
    show SW G (d + 0) YX12_moves_72 Z 21 [none, none, none] [] M4 _ _
    try dsimp only
    exact s_retv (iRow iCX12_moves_0 15 rfl) rfl
abbrev YX12_moves_73 : mY := (RX12, "moves", cX12_moves, 3, none, none)
set_option maxHeartbeats 400000 in
set_option maxRecDepth 20000 in
theorem t_X12_moves_73 {G : mg} {F : Nat} {a2 : Int32} {M : mm} {M' : mm} (d : Nat) (h : m_X12_moves_73 F a2 M = some M') : CM G yX12_moves cX12_moves 3 none (d + 0) [vR 73 0, vI a2] M none M' := by
  refine ct_v (ls := [some (vR 73 0), some (vI a2), none]) rfl rfl (Nat.le_of_ble_eq_true rfl) (fun Z => ?_) h
  show SW G (d + 0) YX12_moves_73 Z 0 [some (vR 73 0), some (vI a2), none] [] M _ _
  unfold m_X12_moves_73
  refine s_step (g_iconst (iRow iCX12_moves_0 0 rfl) kc_0) ?_
  refine s_step (g_istore_n (ls' := [some (vR 73 0), some (vI a2), some (vI (0 : Int32))]) (iRow iCX12_moves_0 1 rfl) rfl (by decide) rfl) ?_
  refine s_lp (fun z => [some (vR 73 0), some (vI a2), some (vI (z.1))]) (fun z => z.2) (fun z => LM G (d + 0) YX12_moves_73 Z 21 [none, none, none] [] z) rfl rfl ?_ ?_
  · rintro ⟨x1, M2⟩
    show SW G (d + 0) YX12_moves_73 Z 2 [some (vR 73 0), some (vI a2), some (vI x1)] [] M2 (b_X12_moves_73_1c F a2 x1 M2) _
    unfold b_X12_moves_73_1c
    refine s_step (g_iload_n (iRow iCX12_moves_0 2 rfl) rfl rfl) ?_
    refine s_step (g_iload_n (iRow iCX12_moves_0 3 rfl) rfl rfl) ?_
    refine s_if (g_icmp_ge (tgt := 21) (iRow iCX12_moves_0 4 rfl) (by decide)) (fun _ => ?_) (fun _ => ?_)
    · refine s_step (g_keep [false, false, false] rfl) ?_
      exact s_end (fun h => h)
    · refine s_step (g_aload_n (iRow iCX12_moves_0 5 rfl) rfl rfl) ?_
      refine s_step (g_iload_n (iRow iCX12_moves_0 6 rfl) rfl rfl) ?_
      refine s_step (g_aload_n (iRow iCX12_moves_0 7 rfl) rfl rfl) ?_
      refine s_step (g_iload_n (iRow iCX12_moves_0 8 rfl) rfl rfl) ?_
      refine s_step (g_iload_n (iRow iCX12_moves_0 9 rfl) rfl rfl) ?_
      refine s_step (g_iadd (iRow iCX12_moves_0 10 rfl)) ?_
      refine s_gi (fun h => g_iald (iRow iCX12_moves_0 11 rfl) kn_73 ka_73 h) ?_
      refine s_gi (fun h => g_iast (iRow iCX12_moves_0 12 rfl) kn_73 ka_73 h) ?_
      refine s_nmM (fun M3 => ?_)
      refine s_step (g_iincc (c := 1) (ls' := [some (vR 73 0), some (vI a2), some (vI (x1 + (1 : Int32)))]) (iRow iCX12_moves_0 13 rfl) rfl kc_1 (by decide) rfl) ?_
      refine s_step (g_goto (tgt := 2) (iRow iCX12_moves_0 14 rfl) (by decide)) ?_
      exact s_end (fun h => h)
  · rintro M4
    show SW G (d + 0) YX12_moves_73 Z 21 [none, none, none] [] M4 _ _
    try dsimp only
    exact s_retv (iRow iCX12_moves_0 15 rfl) rfl
abbrev YX12_moves_74 : mY := (RX12, "moves", cX12_moves, 3, none, none)
set_option maxHeartbeats 400000 in
set_option maxRecDepth 20000 in
theorem t_X12_moves_74 {G : mg} {F : Nat} {a2 : Int32} {M : mm} {M' : mm} (d : Nat) (h : m_X12_moves_74 F a2 M = some M') : CM G yX12_moves cX12_moves 3 none (d + 0) [vR 74 0, vI a2] M none M' := by
  refine ct_v (ls := [some (vR 74 0), some (vI a2), none]) rfl rfl (Nat.le_of_ble_eq_true rfl) (fun Z => ?_) h
  show SW G (d + 0) YX12_moves_74 Z 0 [some (vR 74 0), some (vI a2), none] [] M _ _
  unfold m_X12_moves_74
  refine s_step (g_iconst (iRow iCX12_moves_0 0 rfl) kc_0) ?_
  refine s_step (g_istore_n (ls' := [some (vR 74 0), some (vI a2), some (vI (0 : Int32))]) (iRow iCX12_moves_0 1 rfl) rfl (by decide) rfl) ?_
  refine s_lp (fun z => [some (vR 74 0), some (vI a2), some (vI (z.1))]) (fun z => z.2) (fun z => LM G (d + 0) YX12_moves_74 Z 21 [none, none, none] [] z) rfl rfl ?_ ?_
  · rintro ⟨x1, M2⟩
    show SW G (d + 0) YX12_moves_74 Z 2 [some (vR 74 0), some (vI a2), some (vI x1)] [] M2 (b_X12_moves_74_1c F a2 x1 M2) _
    unfold b_X12_moves_74_1c
    refine s_step (g_iload_n (iRow iCX12_moves_0 2 rfl) rfl rfl) ?_
    refine s_step (g_iload_n (iRow iCX12_moves_0 3 rfl) rfl rfl) ?_
    refine s_if (g_icmp_ge (tgt := 21) (iRow iCX12_moves_0 4 rfl) (by decide)) (fun _ => ?_) (fun _ => ?_)
    · refine s_step (g_keep [false, false, false] rfl) ?_
      exact s_end (fun h => h)
    · refine s_step (g_aload_n (iRow iCX12_moves_0 5 rfl) rfl rfl) ?_
      refine s_step (g_iload_n (iRow iCX12_moves_0 6 rfl) rfl rfl) ?_
      refine s_step (g_aload_n (iRow iCX12_moves_0 7 rfl) rfl rfl) ?_
      refine s_step (g_iload_n (iRow iCX12_moves_0 8 rfl) rfl rfl) ?_
      refine s_step (g_iload_n (iRow iCX12_moves_0 9 rfl) rfl rfl) ?_
      refine s_step (g_iadd (iRow iCX12_moves_0 10 rfl)) ?_
      refine s_gi (fun h => g_iald (iRow iCX12_moves_0 11 rfl) kn_74 ka_74 h) ?_
      refine s_gi (fun h => g_iast (iRow iCX12_moves_0 12 rfl) kn_74 ka_74 h) ?_
      refine s_nmM (fun M3 => ?_)
      refine s_step (g_iincc (c := 1) (ls' := [some (vR 74 0), some (vI a2), some (vI (x1 + (1 : Int32)))]) (iRow iCX12_moves_0 13 rfl) rfl kc_1 (by decide) rfl) ?_
      refine s_step (g_goto (tgt := 2) (iRow iCX12_moves_0 14 rfl) (by decide)) ?_
      exact s_end (fun h => h)
  · rintro M4
    show SW G (d + 0) YX12_moves_74 Z 21 [none, none, none] [] M4 _ _
    try dsimp only
    exact s_retv (iRow iCX12_moves_0 15 rfl) rfl
abbrev YX12_moves_75 : mY := (RX12, "moves", cX12_moves, 3, none, none)
set_option maxHeartbeats 400000 in
set_option maxRecDepth 20000 in
theorem t_X12_moves_75 {G : mg} {F : Nat} {a2 : Int32} {M : mm} {M' : mm} (d : Nat) (h : m_X12_moves_75 F a2 M = some M') : CM G yX12_moves cX12_moves 3 none (d + 0) [vR 75 0, vI a2] M none M' := by
  refine ct_v (ls := [some (vR 75 0), some (vI a2), none]) rfl rfl (Nat.le_of_ble_eq_true rfl) (fun Z => ?_) h
  show SW G (d + 0) YX12_moves_75 Z 0 [some (vR 75 0), some (vI a2), none] [] M _ _
  unfold m_X12_moves_75
  refine s_step (g_iconst (iRow iCX12_moves_0 0 rfl) kc_0) ?_
  refine s_step (g_istore_n (ls' := [some (vR 75 0), some (vI a2), some (vI (0 : Int32))]) (iRow iCX12_moves_0 1 rfl) rfl (by decide) rfl) ?_
  refine s_lp (fun z => [some (vR 75 0), some (vI a2), some (vI (z.1))]) (fun z => z.2) (fun z => LM G (d + 0) YX12_moves_75 Z 21 [none, none, none] [] z) rfl rfl ?_ ?_
  · rintro ⟨x1, M2⟩
    show SW G (d + 0) YX12_moves_75 Z 2 [some (vR 75 0), some (vI a2), some (vI x1)] [] M2 (b_X12_moves_75_1c F a2 x1 M2) _
    unfold b_X12_moves_75_1c
    refine s_step (g_iload_n (iRow iCX12_moves_0 2 rfl) rfl rfl) ?_
    refine s_step (g_iload_n (iRow iCX12_moves_0 3 rfl) rfl rfl) ?_
    refine s_if (g_icmp_ge (tgt := 21) (iRow iCX12_moves_0 4 rfl) (by decide)) (fun _ => ?_) (fun _ => ?_)
    · refine s_step (g_keep [false, false, false] rfl) ?_
      exact s_end (fun h => h)
    · refine s_step (g_aload_n (iRow iCX12_moves_0 5 rfl) rfl rfl) ?_
      refine s_step (g_iload_n (iRow iCX12_moves_0 6 rfl) rfl rfl) ?_
      refine s_step (g_aload_n (iRow iCX12_moves_0 7 rfl) rfl rfl) ?_
      refine s_step (g_iload_n (iRow iCX12_moves_0 8 rfl) rfl rfl) ?_
      refine s_step (g_iload_n (iRow iCX12_moves_0 9 rfl) rfl rfl) ?_
      refine s_step (g_iadd (iRow iCX12_moves_0 10 rfl)) ?_
      refine s_gi (fun h => g_iald (iRow iCX12_moves_0 11 rfl) kn_75 ka_75 h) ?_
      refine s_gi (fun h => g_iast (iRow iCX12_moves_0 12 rfl) kn_75 ka_75 h) ?_
      refine s_nmM (fun M3 => ?_)
      refine s_step (g_iincc (c := 1) (ls' := [some (vR 75 0), some (vI a2), some (vI (x1 + (1 : Int32)))]) (iRow iCX12_moves_0 13 rfl) rfl kc_1 (by decide) rfl) ?_
      refine s_step (g_goto (tgt := 2) (iRow iCX12_moves_0 14 rfl) (by decide)) ?_
      exact s_end (fun h => h)
  · rintro M4
    show SW G (d + 0) YX12_moves_75 Z 21 [none, none, none] [] M4 _ _
    try dsimp only
    exact s_retv (iRow iCX12_moves_0 15 rfl) rfl
abbrev YX12_moves_76 : mY := (RX12, "moves", cX12_moves, 3, none, none)
set_option maxHeartbeats 400000 in
set_option maxRecDepth 20000 in
theorem t_X12_moves_76 {G : mg} {F : Nat} {a2 : Int32} {M : mm} {M' : mm} (d : Nat) (h : m_X12_moves_76 F a2 M = some M') : CM G yX12_moves cX12_moves 3 none (d + 0) [vR 76 0, vI a2] M none M' := by
  refine ct_v (ls := [some (vR 76 0), some (vI a2), none]) rfl rfl (Nat.le_of_ble_eq_true rfl) (fun Z => ?_) h
  show SW G (d + 0) YX12_moves_76 Z 0 [some (vR 76 0), some (vI a2), none] [] M _ _
  unfold m_X12_moves_76
  refine s_step (g_iconst (iRow iCX12_moves_0 0 rfl) kc_0) ?_
  refine s_step (g_istore_n (ls' := [some (vR 76 0), some (vI a2), some (vI (0 : Int32))]) (iRow iCX12_moves_0 1 rfl) rfl (by decide) rfl) ?_
  refine s_lp (fun z => [some (vR 76 0), some (vI a2), some (vI (z.1))]) (fun z => z.2) (fun z => LM G (d + 0) YX12_moves_76 Z 21 [none, none, none] [] z) rfl rfl ?_ ?_
  · rintro ⟨x1, M2⟩
    show SW G (d + 0) YX12_moves_76 Z 2 [some (vR 76 0), some (vI a2), some (vI x1)] [] M2 (b_X12_moves_76_1c F a2 x1 M2) _
    unfold b_X12_moves_76_1c
    refine s_step (g_iload_n (iRow iCX12_moves_0 2 rfl) rfl rfl) ?_
    refine s_step (g_iload_n (iRow iCX12_moves_0 3 rfl) rfl rfl) ?_
    refine s_if (g_icmp_ge (tgt := 21) (iRow iCX12_moves_0 4 rfl) (by decide)) (fun _ => ?_) (fun _ => ?_)
    · refine s_step (g_keep [false, false, false] rfl) ?_
      exact s_end (fun h => h)
    · refine s_step (g_aload_n (iRow iCX12_moves_0 5 rfl) rfl rfl) ?_
      refine s_step (g_iload_n (iRow iCX12_moves_0 6 rfl) rfl rfl) ?_
      refine s_step (g_aload_n (iRow iCX12_moves_0 7 rfl) rfl rfl) ?_
      refine s_step (g_iload_n (iRow iCX12_moves_0 8 rfl) rfl rfl) ?_
      refine s_step (g_iload_n (iRow iCX12_moves_0 9 rfl) rfl rfl) ?_
      refine s_step (g_iadd (iRow iCX12_moves_0 10 rfl)) ?_
      refine s_gi (fun h => g_iald (iRow iCX12_moves_0 11 rfl) kn_76 ka_76 h) ?_
      refine s_gi (fun h => g_iast (iRow iCX12_moves_0 12 rfl) kn_76 ka_76 h) ?_
      refine s_nmM (fun M3 => ?_)
      refine s_step (g_iincc (c := 1) (ls' := [some (vR 76 0), some (vI a2), some (vI (x1 + (1 : Int32)))]) (iRow iCX12_moves_0 13 rfl) rfl kc_1 (by decide) rfl) ?_
      refine s_step (g_goto (tgt := 2) (iRow iCX12_moves_0 14 rfl) (by decide)) ?_
      exact s_end (fun h => h)
  · rintro M4
    show SW G (d + 0) YX12_moves_76 Z 21 [none, none, none] [] M4 _ _
    try dsimp only
    exact s_retv (iRow iCX12_moves_0 15 rfl) rfl
abbrev YX12_moves_77 : mY := (RX12, "moves", cX12_moves, 3, none, none)
set_option maxHeartbeats 400000 in
set_option maxRecDepth 20000 in
theorem t_X12_moves_77 {G : mg} {F : Nat} {a2 : Int32} {M : mm} {M' : mm} (d : Nat) (h : m_X12_moves_77 F a2 M = some M') : CM G yX12_moves cX12_moves 3 none (d + 0) [vR 77 0, vI a2] M none M' := by
  refine ct_v (ls := [some (vR 77 0), some (vI a2), none]) rfl rfl (Nat.le_of_ble_eq_true rfl) (fun Z => ?_) h
  show SW G (d + 0) YX12_moves_77 Z 0 [some (vR 77 0), some (vI a2), none] [] M _ _
  unfold m_X12_moves_77
  refine s_step (g_iconst (iRow iCX12_moves_0 0 rfl) kc_0) ?_
  refine s_step (g_istore_n (ls' := [some (vR 77 0), some (vI a2), some (vI (0 : Int32))]) (iRow iCX12_moves_0 1 rfl) rfl (by decide) rfl) ?_
  refine s_lp (fun z => [some (vR 77 0), some (vI a2), some (vI (z.1))]) (fun z => z.2) (fun z => LM G (d + 0) YX12_moves_77 Z 21 [none, none, none] [] z) rfl rfl ?_ ?_
  · rintro ⟨x1, M2⟩
    show SW G (d + 0) YX12_moves_77 Z 2 [some (vR 77 0), some (vI a2), some (vI x1)] [] M2 (b_X12_moves_77_1c F a2 x1 M2) _
    unfold b_X12_moves_77_1c
    refine s_step (g_iload_n (iRow iCX12_moves_0 2 rfl) rfl rfl) ?_
    refine s_step (g_iload_n (iRow iCX12_moves_0 3 rfl) rfl rfl) ?_
    refine s_if (g_icmp_ge (tgt := 21) (iRow iCX12_moves_0 4 rfl) (by decide)) (fun _ => ?_) (fun _ => ?_)
    · refine s_step (g_keep [false, false, false] rfl) ?_
      exact s_end (fun h => h)
    · refine s_step (g_aload_n (iRow iCX12_moves_0 5 rfl) rfl rfl) ?_
      refine s_step (g_iload_n (iRow iCX12_moves_0 6 rfl) rfl rfl) ?_
      refine s_step (g_aload_n (iRow iCX12_moves_0 7 rfl) rfl rfl) ?_
      refine s_step (g_iload_n (iRow iCX12_moves_0 8 rfl) rfl rfl) ?_
      refine s_step (g_iload_n (iRow iCX12_moves_0 9 rfl) rfl rfl) ?_
      refine s_step (g_iadd (iRow iCX12_moves_0 10 rfl)) ?_
      refine s_gi (fun h => g_iald (iRow iCX12_moves_0 11 rfl) kn_77 ka_77 h) ?_
      refine s_gi (fun h => g_iast (iRow iCX12_moves_0 12 rfl) kn_77 ka_77 h) ?_
      refine s_nmM (fun M3 => ?_)
      refine s_step (g_iincc (c := 1) (ls' := [some (vR 77 0), some (vI a2), some (vI (x1 + (1 : Int32)))]) (iRow iCX12_moves_0 13 rfl) rfl kc_1 (by decide) rfl) ?_
      refine s_step (g_goto (tgt := 2) (iRow iCX12_moves_0 14 rfl) (by decide)) ?_
      exact s_end (fun h => h)
  · rintro M4
    show SW G (d + 0) YX12_moves_77 Z 21 [none, none, none] [] M4 _ _
    try dsimp only
    exact s_retv (iRow iCX12_moves_0 15 rfl) rfl
abbrev YX12_moves_78 : mY := (RX12, "moves", cX12_moves, 3, none, none)
set_option maxHeartbeats 400000 in
set_option maxRecDepth 20000 in
theorem t_X12_moves_78 {G : mg} {F : Nat} {a2 : Int32} {M : mm} {M' : mm} (d : Nat) (h : m_X12_moves_78 F a2 M = some M') : CM G yX12_moves cX12_moves 3 none (d + 0) [vR 78 0, vI a2] M none M' := by
  refine ct_v (ls := [some (vR 78 0), some (vI a2), none]) rfl rfl (Nat.le_of_ble_eq_true rfl) (fun Z => ?_) h
  show SW G (d + 0) YX12_moves_78 Z 0 [some (vR 78 0), some (vI a2), none] [] M _ _
  unfold m_X12_moves_78
  refine s_step (g_iconst (iRow iCX12_moves_0 0 rfl) kc_0) ?_
  refine s_step (g_istore_n (ls' := [some (vR 78 0), some (vI a2), some (vI (0 : Int32))]) (iRow iCX12_moves_0 1 rfl) rfl (by decide) rfl) ?_
  refine s_lp (fun z => [some (vR 78 0), some (vI a2), some (vI (z.1))]) (fun z => z.2) (fun z => LM G (d + 0) YX12_moves_78 Z 21 [none, none, none] [] z) rfl rfl ?_ ?_
  · rintro ⟨x1, M2⟩
    show SW G (d + 0) YX12_moves_78 Z 2 [some (vR 78 0), some (vI a2), some (vI x1)] [] M2 (b_X12_moves_78_1c F a2 x1 M2) _
    unfold b_X12_moves_78_1c
    refine s_step (g_iload_n (iRow iCX12_moves_0 2 rfl) rfl rfl) ?_
    refine s_step (g_iload_n (iRow iCX12_moves_0 3 rfl) rfl rfl) ?_
    refine s_if (g_icmp_ge (tgt := 21) (iRow iCX12_moves_0 4 rfl) (by decide)) (fun _ => ?_) (fun _ => ?_)
    · refine s_step (g_keep [false, false, false] rfl) ?_
      exact s_end (fun h => h)
    · refine s_step (g_aload_n (iRow iCX12_moves_0 5 rfl) rfl rfl) ?_
      refine s_step (g_iload_n (iRow iCX12_moves_0 6 rfl) rfl rfl) ?_
      refine s_step (g_aload_n (iRow iCX12_moves_0 7 rfl) rfl rfl) ?_
      refine s_step (g_iload_n (iRow iCX12_moves_0 8 rfl) rfl rfl) ?_
      refine s_step (g_iload_n (iRow iCX12_moves_0 9 rfl) rfl rfl) ?_
      refine s_step (g_iadd (iRow iCX12_moves_0 10 rfl)) ?_
      refine s_gi (fun h => g_iald (iRow iCX12_moves_0 11 rfl) kn_78 ka_78 h) ?_
      refine s_gi (fun h => g_iast (iRow iCX12_moves_0 12 rfl) kn_78 ka_78 h) ?_
      refine s_nmM (fun M3 => ?_)
      refine s_step (g_iincc (c := 1) (ls' := [some (vR 78 0), some (vI a2), some (vI (x1 + (1 : Int32)))]) (iRow iCX12_moves_0 13 rfl) rfl kc_1 (by decide) rfl) ?_
      refine s_step (g_goto (tgt := 2) (iRow iCX12_moves_0 14 rfl) (by decide)) ?_
      exact s_end (fun h => h)
  · rintro M4
    show SW G (d + 0) YX12_moves_78 Z 21 [none, none, none] [] M4 _ _
    try dsimp only
    exact s_retv (iRow iCX12_moves_0 15 rfl) rfl
abbrev YX12_moves_81 : mY := (RX12, "moves", cX12_moves, 3, none, none)
set_option maxHeartbeats 400000 in
set_option maxRecDepth 20000 in
theorem t_X12_moves_81 {G : mg} {F : Nat} {a2 : Int32} {M : mm} {M' : mm} (d : Nat) (h : m_X12_moves_81 F a2 M = some M') : CM G yX12_moves cX12_moves 3 none (d + 0) [vR 81 0, vI a2] M none M' := by
  refine ct_v (ls := [some (vR 81 0), some (vI a2), none]) rfl rfl (Nat.le_of_ble_eq_true rfl) (fun Z => ?_) h
  show SW G (d + 0) YX12_moves_81 Z 0 [some (vR 81 0), some (vI a2), none] [] M _ _
  unfold m_X12_moves_81
  refine s_step (g_iconst (iRow iCX12_moves_0 0 rfl) kc_0) ?_
  refine s_step (g_istore_n (ls' := [some (vR 81 0), some (vI a2), some (vI (0 : Int32))]) (iRow iCX12_moves_0 1 rfl) rfl (by decide) rfl) ?_
  refine s_lp (fun z => [some (vR 81 0), some (vI a2), some (vI (z.1))]) (fun z => z.2) (fun z => LM G (d + 0) YX12_moves_81 Z 21 [none, none, none] [] z) rfl rfl ?_ ?_
  · rintro ⟨x1, M2⟩
    show SW G (d + 0) YX12_moves_81 Z 2 [some (vR 81 0), some (vI a2), some (vI x1)] [] M2 (b_X12_moves_81_1c F a2 x1 M2) _
    unfold b_X12_moves_81_1c
    refine s_step (g_iload_n (iRow iCX12_moves_0 2 rfl) rfl rfl) ?_
    refine s_step (g_iload_n (iRow iCX12_moves_0 3 rfl) rfl rfl) ?_
    refine s_if (g_icmp_ge (tgt := 21) (iRow iCX12_moves_0 4 rfl) (by decide)) (fun _ => ?_) (fun _ => ?_)
    · refine s_step (g_keep [false, false, false] rfl) ?_
      exact s_end (fun h => h)
    · refine s_step (g_aload_n (iRow iCX12_moves_0 5 rfl) rfl rfl) ?_
      refine s_step (g_iload_n (iRow iCX12_moves_0 6 rfl) rfl rfl) ?_
      refine s_step (g_aload_n (iRow iCX12_moves_0 7 rfl) rfl rfl) ?_
      refine s_step (g_iload_n (iRow iCX12_moves_0 8 rfl) rfl rfl) ?_
      refine s_step (g_iload_n (iRow iCX12_moves_0 9 rfl) rfl rfl) ?_
      refine s_step (g_iadd (iRow iCX12_moves_0 10 rfl)) ?_
      refine s_gi (fun h => g_iald (iRow iCX12_moves_0 11 rfl) kn_81 ka_81 h) ?_
      refine s_gi (fun h => g_iast (iRow iCX12_moves_0 12 rfl) kn_81 ka_81 h) ?_
      refine s_nmM (fun M3 => ?_)
      refine s_step (g_iincc (c := 1) (ls' := [some (vR 81 0), some (vI a2), some (vI (x1 + (1 : Int32)))]) (iRow iCX12_moves_0 13 rfl) rfl kc_1 (by decide) rfl) ?_
      refine s_step (g_goto (tgt := 2) (iRow iCX12_moves_0 14 rfl) (by decide)) ?_
      exact s_end (fun h => h)
  · rintro M4
    show SW G (d + 0) YX12_moves_81 Z 21 [none, none, none] [] M4 _ _
    try dsimp only
    exact s_retv (iRow iCX12_moves_0 15 rfl) rfl
abbrev YX12_lays : mY := (RX12, "lays", cX12_lays, 1, none, none)
set_option maxHeartbeats 400000 in
set_option maxRecDepth 20000 in
theorem t_X12_lays {G : mg} {F : Nat} {M : mm} {M' : mm} (d : Nat) (h : m_X12_lays F M = some M') : CM G yX12_lays cX12_lays 1 none (d + 1) [vR 13 0] M none M' := by
  refine ct_v (ls := [some (vR 13 0)]) rfl rfl (Nat.le_of_ble_eq_true rfl) (fun Z => ?_) h
  show SW G (d + 1) YX12_lays Z 0 [some (vR 13 0)] [] M _ _
  unfold m_X12_lays
  refine s_step (g_aload_n (iRow iCX12_lays_0 0 rfl) rfl rfl) ?_
  refine s_step (g_getR (iRow iCX12_lays_0 1 rfl) f12_13 ko_13 (r_13_10 _ _)) ?_
  refine s_step (g_bipush (iRow iCX12_lays_0 2 rfl) kb_6) ?_
  refine s_cv (stA := []) (fun _ h => h_S (As := [_, _]) (iRow iCX12_lays_0 3 rfl) l12_363 iX12_moves rfl rfl (t_X12_moves_64 (d + 0) h) rfl (by omega) (by decide) (Nat.le_of_ble_eq_true rfl)) (fun M1 => ?_)
  refine s_step (g_aload_n (iRow iCX12_lays_0 4 rfl) rfl rfl) ?_
  refine s_step (g_getR (iRow iCX12_lays_0 5 rfl) f12_16 ko_13 (r_13_11 _ _)) ?_
  refine s_step (g_bipush (iRow iCX12_lays_0 6 rfl) kb_6) ?_
  refine s_cv (stA := []) (fun _ h => h_S (As := [_, _]) (iRow iCX12_lays_0 7 rfl) l12_367 iX12_movesNames rfl rfl (t_X12_movesNames_65 (d + 0) h) rfl (by omega) (by decide) (Nat.le_of_ble_eq_true rfl)) (fun M2 => ?_)
  refine s_step (g_aload_n (iRow iCX12_lays_0 8 rfl) rfl rfl) ?_
  refine s_step (g_getR (iRow iCX12_lays_0 9 rfl) f12_20 ko_13 (r_13_12 _ _)) ?_
  refine s_step (g_bipush (iRow iCX12_lays_0 10 rfl) kb_10) ?_
  refine s_cv (stA := []) (fun _ h => h_S (As := [_, _]) (iRow iCX12_lays_0 11 rfl) l12_367 iX12_movesNames rfl rfl (t_X12_movesNames_66 (d + 0) h) rfl (by omega) (by decide) (Nat.le_of_ble_eq_true rfl)) (fun M3 => ?_)
  refine s_step (g_aload_n (iRow iCX12_lays_0 12 rfl) rfl rfl) ?_
  refine s_step (g_getR (iRow iCX12_lays_0 13 rfl) f12_23 ko_13 (r_13_13 _ _)) ?_
  refine s_step (g_bipush (iRow iCX12_lays_0 14 rfl) kb_10) ?_
  refine s_cv (stA := []) (fun _ h => h_S (As := [_, _]) (iRow iCX12_lays_0 15 rfl) l12_367 iX12_movesNames rfl rfl (t_X12_movesNames_67 (d + 0) h) rfl (by omega) (by decide) (Nat.le_of_ble_eq_true rfl)) (fun M4 => ?_)
  refine s_step (g_aload_n (iRow iCX12_lays_0 16 rfl) rfl rfl) ?_
  refine s_step (g_getR (iRow iCX12_lays_0 17 rfl) f12_26 ko_13 (r_13_14 _ _)) ?_
  refine s_step (g_bipush (iRow iCX12_lays_0 18 rfl) kb_6) ?_
  refine s_cv (stA := []) (fun _ h => h_S (As := [_, _]) (iRow iCX12_lays_0 19 rfl) l12_363 iX12_moves rfl rfl (t_X12_moves_68 (d + 0) h) rfl (by omega) (by decide) (Nat.le_of_ble_eq_true rfl)) (fun M5 => ?_)
  refine s_step (g_aload_n (iRow iCX12_lays_0 20 rfl) rfl rfl) ?_
  refine s_step (g_getR (iRow iCX12_lays_0 21 rfl) f12_29 ko_13 (r_13_15 _ _)) ?_
  refine s_step (g_bipush (iRow iCX12_lays_0 22 rfl) kb_6) ?_
  refine s_cv (stA := []) (fun _ h => h_S (As := [_, _]) (iRow iCX12_lays_0 23 rfl) l12_363 iX12_moves rfl rfl (t_X12_moves_69 (d + 0) h) rfl (by omega) (by decide) (Nat.le_of_ble_eq_true rfl)) (fun M6 => ?_)
  refine s_step (g_aload_n (iRow iCX12_lays_1 0 rfl) rfl rfl) ?_
  refine s_step (g_getR (iRow iCX12_lays_1 1 rfl) f12_32 ko_13 (r_13_16 _ _)) ?_
  refine s_step (g_bipush (iRow iCX12_lays_1 2 rfl) kb_10) ?_
  refine s_cv (stA := []) (fun _ h => h_S (As := [_, _]) (iRow iCX12_lays_1 3 rfl) l12_363 iX12_moves rfl rfl (t_X12_moves_70 (d + 0) h) rfl (by omega) (by decide) (Nat.le_of_ble_eq_true rfl)) (fun M7 => ?_)
  refine s_step (g_aload_n (iRow iCX12_lays_1 4 rfl) rfl rfl) ?_
  refine s_step (g_getR (iRow iCX12_lays_1 5 rfl) f12_35 ko_13 (r_13_17 _ _)) ?_
  refine s_step (g_bipush (iRow iCX12_lays_1 6 rfl) kb_10) ?_
  refine s_cv (stA := []) (fun _ h => h_S (As := [_, _]) (iRow iCX12_lays_1 7 rfl) l12_363 iX12_moves rfl rfl (t_X12_moves_71 (d + 0) h) rfl (by omega) (by decide) (Nat.le_of_ble_eq_true rfl)) (fun M8 => ?_)
  refine s_step (g_aload_n (iRow iCX12_lays_1 8 rfl) rfl rfl) ?_
  refine s_step (g_getR (iRow iCX12_lays_1 9 rfl) f12_38 ko_13 (r_13_18 _ _)) ?_
  refine s_step (g_bipush (iRow iCX12_lays_1 10 rfl) kb_10) ?_
  refine s_cv (stA := []) (fun _ h => h_S (As := [_, _]) (iRow iCX12_lays_1 11 rfl) l12_363 iX12_moves rfl rfl (t_X12_moves_72 (d + 0) h) rfl (by omega) (by decide) (Nat.le_of_ble_eq_true rfl)) (fun M9 => ?_)
  refine s_step (g_aload_n (iRow iCX12_lays_1 12 rfl) rfl rfl) ?_
  refine s_step (g_getR (iRow iCX12_lays_1 13 rfl) f12_41 ko_13 (r_13_19 _ _)) ?_
  refine s_step (g_bipush (iRow iCX12_lays_1 14 rfl) kb_10) ?_
  refine s_cv (stA := []) (fun _ h => h_S (As := [_, _]) (iRow iCX12_lays_1 15 rfl) l12_363 iX12_moves rfl rfl (t_X12_moves_73 (d + 0) h) rfl (by omega) (by decide) (Nat.le_of_ble_eq_true rfl)) (fun M10 => ?_)
  refine s_step (g_aload_n (iRow iCX12_lays_1 16 rfl) rfl rfl) ?_
  refine s_step (g_getR (iRow iCX12_lays_1 17 rfl) f12_44 ko_13 (r_13_20 _ _)) ?_
  refine s_step (g_bipush (iRow iCX12_lays_1 18 rfl) kb_10) ?_
  refine s_cv (stA := []) (fun _ h => h_S (As := [_, _]) (iRow iCX12_lays_1 19 rfl) l12_363 iX12_moves rfl rfl (t_X12_moves_74 (d + 0) h) rfl (by omega) (by decide) (Nat.le_of_ble_eq_true rfl)) (fun M11 => ?_)
  refine s_step (g_aload_n (iRow iCX12_lays_1 20 rfl) rfl rfl) ?_
  refine s_step (g_getR (iRow iCX12_lays_1 21 rfl) f12_47 ko_13 (r_13_21 _ _)) ?_
  refine s_step (g_bipush (iRow iCX12_lays_1 22 rfl) kb_11) ?_
  refine s_cv (stA := []) (fun _ h => h_S (As := [_, _]) (iRow iCX12_lays_1 23 rfl) l12_363 iX12_moves rfl rfl (t_X12_moves_75 (d + 0) h) rfl (by omega) (by decide) (Nat.le_of_ble_eq_true rfl)) (fun M12 => ?_)
  refine s_step (g_aload_n (iRow iCX12_lays_2 0 rfl) rfl rfl) ?_
  refine s_step (g_getR (iRow iCX12_lays_2 1 rfl) f12_50 ko_13 (r_13_22 _ _)) ?_
  refine s_step (g_bipush (iRow iCX12_lays_2 2 rfl) kb_10) ?_
  refine s_cv (stA := []) (fun _ h => h_S (As := [_, _]) (iRow iCX12_lays_2 3 rfl) l12_363 iX12_moves rfl rfl (t_X12_moves_76 (d + 0) h) rfl (by omega) (by decide) (Nat.le_of_ble_eq_true rfl)) (fun M13 => ?_)
  refine s_step (g_aload_n (iRow iCX12_lays_2 4 rfl) rfl rfl) ?_
  refine s_step (g_getR (iRow iCX12_lays_2 5 rfl) f12_53 ko_13 (r_13_23 _ _)) ?_
  refine s_step (g_bipush (iRow iCX12_lays_2 6 rfl) kb_11) ?_
  refine s_cv (stA := []) (fun _ h => h_S (As := [_, _]) (iRow iCX12_lays_2 7 rfl) l12_363 iX12_moves rfl rfl (t_X12_moves_77 (d + 0) h) rfl (by omega) (by decide) (Nat.le_of_ble_eq_true rfl)) (fun M14 => ?_)
  refine s_step (g_aload_n (iRow iCX12_lays_2 8 rfl) rfl rfl) ?_
  refine s_step (g_getR (iRow iCX12_lays_2 9 rfl) f12_56 ko_13 (r_13_24 _ _)) ?_
  refine s_step (g_bipush (iRow iCX12_lays_2 10 rfl) kb_11) ?_
  refine s_cv (stA := []) (fun _ h => h_S (As := [_, _]) (iRow iCX12_lays_2 11 rfl) l12_363 iX12_moves rfl rfl (t_X12_moves_78 (d + 0) h) rfl (by omega) (by decide) (Nat.le_of_ble_eq_true rfl)) (fun M15 => ?_)
  refine s_step (g_aload_n (iRow iCX12_lays_2 12 rfl) rfl rfl) ?_
  refine s_step (g_getR (iRow iCX12_lays_2 13 rfl) f12_65 ko_13 (r_13_27 _ _)) ?_
  refine s_step (g_sipush (iRow iCX12_lays_2 14 rfl) ks_1000) ?_
  refine s_cv (stA := []) (fun _ h => h_S (As := [_, _]) (iRow iCX12_lays_2 15 rfl) l12_363 iX12_moves rfl rfl (t_X12_moves_81 (d + 0) h) rfl (by omega) (by decide) (Nat.le_of_ble_eq_true rfl)) (fun M16 => ?_)
  refine s_step (g_aload_n (iRow iCX12_lays_2 16 rfl) rfl rfl) ?_
  refine s_step (g_getR (iRow iCX12_lays_2 17 rfl) f12_59 ko_13 (r_13_25 _ _)) ?_
  refine s_step (g_iconst (iRow iCX12_lays_2 18 rfl) kc_0) ?_
  refine s_step (g_aload_n (iRow iCX12_lays_2 19 rfl) rfl rfl) ?_
  refine s_step (g_getR (iRow iCX12_lays_2 20 rfl) f12_59 ko_13 (r_13_25 _ _)) ?_
  refine s_step (g_iconst (iRow iCX12_lays_2 21 rfl) kc_1) ?_
  refine s_gi (fun h => g_iald (iRow iCX12_lays_2 22 rfl) kn_79 ka_79 h) ?_
  refine s_step (g_sipush (iRow iCX12_lays_2 23 rfl) ks_1000) ?_
  refine s_step (g_isub (iRow iCX12_lays_3 0 rfl)) ?_
  refine s_gi (fun h => g_iast (iRow iCX12_lays_3 1 rfl) kn_79 ka_79 h) ?_
  refine s_nmM (fun M17 => ?_)
  refine s_step (g_aload_n (iRow iCX12_lays_3 2 rfl) rfl rfl) ?_
  refine s_step (g_getR (iRow iCX12_lays_3 3 rfl) f12_62 ko_13 (r_13_26 _ _)) ?_
  refine s_step (g_iconst (iRow iCX12_lays_3 4 rfl) kc_0) ?_
  refine s_step (g_aload_n (iRow iCX12_lays_3 5 rfl) rfl rfl) ?_
  refine s_step (g_getR (iRow iCX12_lays_3 6 rfl) f12_62 ko_13 (r_13_26 _ _)) ?_
  refine s_step (g_iconst (iRow iCX12_lays_3 7 rfl) kc_1) ?_
  refine s_gi (fun h => g_iald (iRow iCX12_lays_3 8 rfl) kn_80 ka_80 h) ?_
  refine s_step (g_sipush (iRow iCX12_lays_3 9 rfl) ks_1000) ?_
  refine s_step (g_isub (iRow iCX12_lays_3 10 rfl)) ?_
  refine s_gi (fun h => g_iast (iRow iCX12_lays_3 11 rfl) kn_80 ka_80 h) ?_
  refine s_nmM (fun M18 => ?_)
  exact s_retv (iRow iCX12_lays_3 12 rfl) rfl
abbrev YX12_readsLine : mY := (RX12, "readsLine", cX12_readsLine, 3, (some .boolean), none)
set_option maxHeartbeats 400000 in
set_option maxRecDepth 20000 in
theorem t_X12_readsLine {G : mg} {F : Nat} {M : mm} {x : Bool} {M' : mm} (d : Nat) (h : m_X12_readsLine F M = some (x, M')) : CM G yX12_readsLine cX12_readsLine 3 (some .boolean) (d + 3) [vR 13 0] M (some (vI (bI x))) M' := by
  refine ct_z (ls := [some (vR 13 0), none, none]) rfl rfl (Nat.le_of_ble_eq_true rfl) (fun Z => ?_) h
  show SW G (d + 3) YX12_readsLine Z 0 [some (vR 13 0), none, none] [] M _ _
  unfold m_X12_readsLine
  refine s_step (g_aload_n (iRow iCX12_readsLine_0 0 rfl) rfl rfl) ?_
  refine s_step (g_ldc2 (iRow iCX12_readsLine_0 1 rfl) k12_271) ?_
  refine s_cb (sf := fun b => vI (bI b) :: []) (fun _ _ h => h_V (As := [_]) (iRow iCX12_readsLine_0 2 rfl) l12_213 iX12_isWord ko_13 rfl rfl rfl rfl (t_X12_isWord (d + 2) h) rfl (by omega) (by decide) (Nat.le_of_ble_eq_true rfl)) (fun b2 M1 => ?_)
  refine s_bd (fun z => LM G (d + 3) YX12_readsLine Z 57 [some (vR 13 0), none, none] [vI (z.1)] z.2) ?_ ?_
  · refine s_ifeqb (g_if_eq (tgt := 14) (iRow iCX12_readsLine_0 3 rfl) (by decide)) (fun _ => ?_) (fun _ => ?_)
    · refine s_step (g_iconst (iRow iCX12_readsLine_0 4 rfl) kc_0) ?_
      refine s_step (g_goto (tgt := 57) (iRow iCX12_readsLine_0 5 rfl) (by decide)) ?_
      exact s_end (fun h => h)
    · refine s_step (g_aload_n (iRow iCX12_readsLine_0 6 rfl) rfl rfl) ?_
      refine s_step (g_ldc2 (iRow iCX12_readsLine_0 7 rfl) k12_273) ?_
      refine s_cb (sf := fun b => vI (bI b) :: []) (fun _ _ h => h_V (As := [_]) (iRow iCX12_readsLine_0 8 rfl) l12_213 iX12_isWord ko_13 rfl rfl rfl rfl (t_X12_isWord (d + 2) h) rfl (by omega) (by decide) (Nat.le_of_ble_eq_true rfl)) (fun b4 M3 => ?_)
      refine s_ifeqb (g_if_eq (tgt := 28) (iRow iCX12_readsLine_0 9 rfl) (by decide)) (fun _ => ?_) (fun _ => ?_)
      · refine s_step (g_iconst (iRow iCX12_readsLine_0 10 rfl) kc_1) ?_
        refine s_step (g_goto (tgt := 57) (iRow iCX12_readsLine_0 11 rfl) (by decide)) ?_
        exact s_end (fun h => h)
      · refine s_step (g_aload_n (iRow iCX12_readsLine_0 12 rfl) rfl rfl) ?_
        refine s_step (g_ldc2 (iRow iCX12_readsLine_0 13 rfl) k12_275) ?_
        refine s_cb (sf := fun b => vI (bI b) :: []) (fun _ _ h => h_V (As := [_]) (iRow iCX12_readsLine_0 14 rfl) l12_213 iX12_isWord ko_13 rfl rfl rfl rfl (t_X12_isWord (d + 2) h) rfl (by omega) (by decide) (Nat.le_of_ble_eq_true rfl)) (fun b6 M5 => ?_)
        refine s_ifeqb (g_if_eq (tgt := 42) (iRow iCX12_readsLine_0 15 rfl) (by decide)) (fun _ => ?_) (fun _ => ?_)
        · refine s_step (g_iconst (iRow iCX12_readsLine_0 16 rfl) kc_2) ?_
          refine s_step (g_goto (tgt := 57) (iRow iCX12_readsLine_0 17 rfl) (by decide)) ?_
          exact s_end (fun h => h)
        · refine s_step (g_aload_n (iRow iCX12_readsLine_0 18 rfl) rfl rfl) ?_
          refine s_step (g_ldc2 (iRow iCX12_readsLine_0 19 rfl) k12_277) ?_
          refine s_cb (sf := fun b => vI (bI b) :: []) (fun _ _ h => h_V (As := [_]) (iRow iCX12_readsLine_0 20 rfl) l12_213 iX12_isWord ko_13 rfl rfl rfl rfl (t_X12_isWord (d + 2) h) rfl (by omega) (by decide) (Nat.le_of_ble_eq_true rfl)) (fun b8 M7 => ?_)
          refine s_ifeqb (g_if_eq (tgt := 56) (iRow iCX12_readsLine_0 21 rfl) (by decide)) (fun _ => ?_) (fun _ => ?_)
          · refine s_step (g_iconst (iRow iCX12_readsLine_0 22 rfl) kc_3) ?_
            refine s_step (g_goto (tgt := 57) (iRow iCX12_readsLine_0 23 rfl) (by decide)) ?_
            exact s_end (fun h => h)
          · refine s_step (g_iconst (iRow iCX12_readsLine_1 0 rfl) kc_m1) ?_
            exact s_end (fun h => h)
  · rintro ⟨x9, M10⟩
    show SW G (d + 3) YX12_readsLine Z 57 [some (vR 13 0), none, none] [vI x9] M10 _ _
    try dsimp only
    refine s_step (g_istore_n (ls' := [some (vR 13 0), some (vI x9), none]) (iRow iCX12_readsLine_1 1 rfl) rfl (by decide) rfl) ?_
    refine s_step (g_iload_n (iRow iCX12_readsLine_1 2 rfl) rfl rfl) ?_
    refine s_if (g_if_ge (tgt := 68) (iRow iCX12_readsLine_1 3 rfl) (by decide)) (fun _ => ?_) (fun _ => ?_)
    · refine s_step (g_aload_n (iRow iCX12_readsLine_1 8 rfl) rfl rfl) ?_
      refine s_step (g_getR (iRow iCX12_readsLine_1 9 rfl) f12_105 ko_13 (r_13_43 _ _)) ?_
      refine s_step (g_iconst (iRow iCX12_readsLine_1 10 rfl) kc_5) ?_
      refine s_gi (fun h => g_iald (iRow iCX12_readsLine_1 11 rfl) kn_94 ka_94 h) ?_
      refine s_step (g_bipush (iRow iCX12_readsLine_1 12 rfl) kb_40) ?_
      refine s_ifn (g_icmp_ne (tgt := 85) (iRow iCX12_readsLine_1 13 rfl) (by decide)) (fun _ => ?_) (fun _ => ?_)
      · refine s_step (g_aload_n (iRow iCX12_readsLine_1 14 rfl) rfl rfl) ?_
        refine s_step (g_iconst (iRow iCX12_readsLine_1 15 rfl) kc_5) ?_
        refine s_cb (sf := fun b => vI (bI b) :: []) (fun _ _ h => h_V (As := [_]) (iRow iCX12_readsLine_1 16 rfl) l12_221 iX12_fails ko_13 rfl rfl rfl rfl (t_X12_fails (d + 2) h) rfl (by omega) (by decide) (Nat.le_of_ble_eq_true rfl)) (fun b33 M32 => ?_)
        exact s_retz (iRow iCX12_readsLine_1 17 rfl) rfl rfl
      · refine s_step (g_aload_n (iRow iCX12_readsLine_1 18 rfl) rfl rfl) ?_
        refine s_cv (stA := []) (fun _ h => h_V (As := []) (iRow iCX12_readsLine_1 19 rfl) l12_227 iX12_nextToken ko_13 rfl rfl rfl rfl (t_X12_nextToken (d + 1) h) rfl (by omega) (by decide) (Nat.le_of_ble_eq_true rfl)) (fun M11 => ?_)
        refine s_step (g_sipush (iRow iCX12_readsLine_1 20 rfl) ks_200) ?_
        refine s_step (g_aload_n (iRow iCX12_readsLine_1 21 rfl) rfl rfl) ?_
        refine s_step (g_getR (iRow iCX12_readsLine_1 22 rfl) f12_105 ko_13 (r_13_43 _ _)) ?_
        refine s_step (g_iconst (iRow iCX12_readsLine_1 23 rfl) kc_5) ?_
        refine s_gi (fun h => g_iald (iRow iCX12_readsLine_2 0 rfl) kn_94 ka_94 h) ?_
        refine s_step (g_iadd (iRow iCX12_readsLine_2 1 rfl)) ?_
        refine s_nmI (fun x12 => ?_)
        refine s_step (g_istore_n (ls' := [some (vR 13 0), some (vI x9), some (vI x12)]) (iRow iCX12_readsLine_2 2 rfl) rfl (by decide) rfl) ?_
        refine s_step (g_aload_n (iRow iCX12_readsLine_2 3 rfl) rfl rfl) ?_
        refine s_step (g_getR (iRow iCX12_readsLine_2 4 rfl) f12_108 ko_13 (r_13_44 _ _)) ?_
        refine s_step (g_iload_n (iRow iCX12_readsLine_2 5 rfl) rfl rfl) ?_
        refine s_step (g_iload_n (iRow iCX12_readsLine_2 6 rfl) rfl rfl) ?_
        refine s_gi (fun h => g_iast (iRow iCX12_readsLine_2 7 rfl) kn_95 ka_95 h) ?_
        refine s_nmM (fun M13 => ?_)
        refine s_step (g_iload_n (iRow iCX12_readsLine_2 8 rfl) rfl rfl) ?_
        refine s_step (g_iconst (iRow iCX12_readsLine_2 9 rfl) kc_2) ?_
        refine s_nj 187 (fun z => [some (vR 13 0), none, none]) (fun z => []) (fun z => z) ?_ (fun j187 hj187 => ?_)
        · rintro M28
          show SW G (d + 3) YX12_readsLine Z 187 [some (vR 13 0), none, none] [] M28 _ _
          try dsimp only
          refine s_step (g_aload_n (iRow iCX12_readsLine_4 6 rfl) rfl rfl) ?_
          refine s_step (g_getR (iRow iCX12_readsLine_4 7 rfl) f12_105 ko_13 (r_13_43 _ _)) ?_
          refine s_step (g_iconst (iRow iCX12_readsLine_4 8 rfl) kc_5) ?_
          refine s_step (g_dup2 (iRow iCX12_readsLine_4 9 rfl) rfl rfl) ?_
          refine s_gi (fun h => g_iald (iRow iCX12_readsLine_4 10 rfl) kn_94 ka_94 h) ?_
          refine s_step (g_iconst (iRow iCX12_readsLine_4 11 rfl) kc_1) ?_
          refine s_step (g_iadd (iRow iCX12_readsLine_4 12 rfl)) ?_
          refine s_gi (fun h => g_iast (iRow iCX12_readsLine_4 13 rfl) kn_94 ka_94 h) ?_
          refine s_nmM (fun M29 => ?_)
          refine s_step (g_aload_n (iRow iCX12_readsLine_4 14 rfl) rfl rfl) ?_
          refine s_cb (sf := fun b => vI (bI b) :: []) (fun _ _ h => h_V (As := []) (iRow iCX12_readsLine_4 15 rfl) l12_325 iX12_closes ko_13 rfl rfl rfl rfl (t_X12_closes (d + 0) h) rfl (by omega) (by decide) (Nat.le_of_ble_eq_true rfl)) (fun b31 M30 => ?_)
          exact s_retz (iRow iCX12_readsLine_4 16 rfl) rfl rfl
        · refine s_if (g_icmp_ge (tgt := 139) (iRow iCX12_readsLine_2 10 rfl) (by decide)) (fun _ => ?_) (fun _ => ?_)
          · refine s_step (g_iload_n (iRow iCX12_readsLine_3 2 rfl) rfl rfl) ?_
            refine s_step (g_iconst (iRow iCX12_readsLine_3 3 rfl) kc_2) ?_
            refine s_ifn (g_icmp_ne (tgt := 187) (iRow iCX12_readsLine_3 4 rfl) (by decide)) (fun _ => ?_) (fun _ => ?_)
            · refine s_step (g_aload_n (iRow iCX12_readsLine_3 5 rfl) rfl rfl) ?_
              refine s_cb (sf := fun b => vI (bI b) :: []) (fun _ _ h => h_V (As := []) (iRow iCX12_readsLine_3 6 rfl) l12_305 iX12_isKept ko_13 rfl rfl rfl rfl (t_X12_isKept (d + 2) h) rfl (by omega) (by decide) (Nat.le_of_ble_eq_true rfl)) (fun b15 M14 => ?_)
              refine s_ifeqb (g_if_eq (tgt := 157) (iRow iCX12_readsLine_3 7 rfl) (by decide)) (fun _ => ?_) (fun _ => ?_)
              · refine s_step (g_aload_n (iRow iCX12_readsLine_3 8 rfl) rfl rfl) ?_
                refine s_step (g_iconst (iRow iCX12_readsLine_3 9 rfl) kc_1) ?_
                refine s_cb (sf := fun b => vI (bI b) :: []) (fun _ _ h => h_V (As := [_]) (iRow iCX12_readsLine_3 10 rfl) l12_221 iX12_fails ko_13 rfl rfl rfl rfl (t_X12_fails (d + 2) h) rfl (by omega) (by decide) (Nat.le_of_ble_eq_true rfl)) (fun b23 M22 => ?_)
                exact s_retz (iRow iCX12_readsLine_3 11 rfl) rfl rfl
              · refine s_step (g_aload_n (iRow iCX12_readsLine_3 12 rfl) rfl rfl) ?_
                refine s_step (g_getR (iRow iCX12_readsLine_3 13 rfl) f12_111 ko_13 (r_13_45 _ _)) ?_
                refine s_step (g_iload_n (iRow iCX12_readsLine_3 14 rfl) rfl rfl) ?_
                refine s_step (g_aload_n (iRow iCX12_readsLine_3 15 rfl) rfl rfl) ?_
                refine s_step (g_iconst (iRow iCX12_readsLine_3 16 rfl) kc_0) ?_
                refine s_cl (sf := fun x => vI x :: [vI x12, vR 96 0]) (fun _ _ h => h_V (As := [_]) (iRow iCX12_readsLine_3 17 rfl) l12_315 iX12_stoneNamed ko_13 rfl rfl rfl rfl (t_X12_stoneNamed (d + 1) h) rfl (by omega) (by decide) (Nat.le_of_ble_eq_true rfl)) (fun x17 M16 => ?_)
                refine s_gi (fun h => g_iast (iRow iCX12_readsLine_3 18 rfl) kn_96 ka_96 h) ?_
                refine s_nmM (fun M18 => ?_)
                refine s_step (g_aload_n (iRow iCX12_readsLine_3 19 rfl) rfl rfl) ?_
                refine s_step (g_getR (iRow iCX12_readsLine_3 20 rfl) f12_111 ko_13 (r_13_45 _ _)) ?_
                refine s_step (g_iload_n (iRow iCX12_readsLine_3 21 rfl) rfl rfl) ?_
                refine s_gi (fun h => g_iald (iRow iCX12_readsLine_3 22 rfl) kn_96 ka_96 h) ?_
                refine s_if (g_if_ge (tgt := 183) (iRow iCX12_readsLine_3 23 rfl) (by decide)) (fun _ => ?_) (fun _ => ?_)
                · refine s_step (g_aload_n (iRow iCX12_readsLine_4 4 rfl) rfl rfl) ?_
                  refine s_cv (stA := []) (fun _ h => h_V (As := []) (iRow iCX12_readsLine_4 5 rfl) l12_227 iX12_nextToken ko_13 rfl rfl rfl rfl (t_X12_nextToken (d + 1) h) rfl (by omega) (by decide) (Nat.le_of_ble_eq_true rfl)) (fun M19 => ?_)
                  refine s_step (g_keep [true, false, false] rfl) ?_
                  exact hj187 _
                · refine s_step (g_aload_n (iRow iCX12_readsLine_4 0 rfl) rfl rfl) ?_
                  refine s_step (g_iconst (iRow iCX12_readsLine_4 1 rfl) kc_2) ?_
                  refine s_cb (sf := fun b => vI (bI b) :: []) (fun _ _ h => h_V (As := [_]) (iRow iCX12_readsLine_4 2 rfl) l12_221 iX12_fails ko_13 rfl rfl rfl rfl (t_X12_fails (d + 2) h) rfl (by omega) (by decide) (Nat.le_of_ble_eq_true rfl)) (fun b21 M20 => ?_)
                  exact s_retz (iRow iCX12_readsLine_4 3 rfl) rfl rfl
            · refine s_step (g_keep [true, false, false] rfl) ?_
              exact hj187 _
          · refine s_step (g_aload_n (iRow iCX12_readsLine_2 11 rfl) rfl rfl) ?_
            refine s_step (g_iconst (iRow iCX12_readsLine_2 12 rfl) kc_0) ?_
            refine s_cb (sf := fun b => vI (bI b) :: []) (fun _ _ h => h_V (As := [_]) (iRow iCX12_readsLine_2 13 rfl) l12_328 iX12_needsOath ko_13 rfl rfl rfl rfl (t_X12_needsOath (d + 0) h) rfl (by omega) (by decide) (Nat.le_of_ble_eq_true rfl)) (fun b25 M24 => ?_)
            refine s_ifneb (g_if_ne (tgt := 122) (iRow iCX12_readsLine_2 14 rfl) (by decide)) (fun _ => ?_) (fun _ => ?_)
            · refine s_step (g_aload_n (iRow iCX12_readsLine_2 17 rfl) rfl rfl) ?_
              refine s_step (g_getR (iRow iCX12_readsLine_2 18 rfl) f12_111 ko_13 (r_13_45 _ _)) ?_
              refine s_step (g_iload_n (iRow iCX12_readsLine_2 19 rfl) rfl rfl) ?_
              refine s_step (g_aload_n (iRow iCX12_readsLine_2 20 rfl) rfl rfl) ?_
              refine s_step (g_getI (iRow iCX12_readsLine_2 21 rfl) f12_295 ko_13) ?_
              refine s_gi (fun h => g_iast (iRow iCX12_readsLine_2 22 rfl) kn_96 ka_96 h) ?_
              refine s_nmM (fun M26 => ?_)
              refine s_step (g_aload_n (iRow iCX12_readsLine_2 23 rfl) rfl rfl) ?_
              refine s_cv (stA := []) (fun _ h => h_V (As := []) (iRow iCX12_readsLine_3 0 rfl) l12_227 iX12_nextToken ko_13 rfl rfl rfl rfl (t_X12_nextToken (d + 1) h) rfl (by omega) (by decide) (Nat.le_of_ble_eq_true rfl)) (fun M27 => ?_)
              refine s_step (g_goto (tgt := 187) (iRow iCX12_readsLine_3 1 rfl) (by decide)) ?_
              refine s_step (g_keep [true, false, false] rfl) ?_
              exact hj187 _
            · refine s_step (g_iconst (iRow iCX12_readsLine_2 15 rfl) kc_0) ?_
              exact s_retz (b := false) (iRow iCX12_readsLine_2 16 rfl) rfl rfl
    · refine s_step (g_aload_n (iRow iCX12_readsLine_1 4 rfl) rfl rfl) ?_
      refine s_step (g_iconst (iRow iCX12_readsLine_1 5 rfl) kc_1) ?_
      refine s_cb (sf := fun b => vI (bI b) :: []) (fun _ _ h => h_V (As := [_]) (iRow iCX12_readsLine_1 6 rfl) l12_221 iX12_fails ko_13 rfl rfl rfl rfl (t_X12_fails (d + 2) h) rfl (by omega) (by decide) (Nat.le_of_ble_eq_true rfl)) (fun b35 M34 => ?_)
      exact s_retz (iRow iCX12_readsLine_1 7 rfl) rfl rfl
abbrev YX12_laysLines : mY := (RX12, "laysLines", cX12_laysLines, 4, none, none)
set_option maxHeartbeats 400000 in
set_option maxRecDepth 20000 in
theorem t_X12_laysLines {G : mg} {F : Nat} {a1 : Int32} {a2 : Int32} {M : mm} {M' : mm} (d : Nat) (h : m_X12_laysLines F a1 a2 M = some M') : CM G yX12_laysLines cX12_laysLines 4 none (d + 0) [vR 13 0, vI a1, vI a2] M none M' := by
  refine ct_v (ls := [some (vR 13 0), some (vI a1), some (vI a2), none]) rfl rfl (Nat.le_of_ble_eq_true rfl) (fun Z => ?_) h
  show SW G (d + 0) YX12_laysLines Z 0 [some (vR 13 0), some (vI a1), some (vI a2), none] [] M _ _
  unfold m_X12_laysLines
  refine s_step (g_aload_n (iRow iCX12_laysLines_0 0 rfl) rfl rfl) ?_
  refine s_step (g_getR (iRow iCX12_laysLines_0 1 rfl) f12_105 ko_13 (r_13_43 _ _)) ?_
  refine s_step (g_iload_n (iRow iCX12_laysLines_0 2 rfl) rfl rfl) ?_
  refine s_step (g_aload_n (iRow iCX12_laysLines_0 3 rfl) rfl rfl) ?_
  refine s_step (g_getR (iRow iCX12_laysLines_0 4 rfl) f12_105 ko_13 (r_13_43 _ _)) ?_
  refine s_step (g_iload_n (iRow iCX12_laysLines_0 5 rfl) rfl rfl) ?_
  refine s_gi (fun h => g_iald (iRow iCX12_laysLines_0 6 rfl) kn_94 ka_94 h) ?_
  refine s_gi (fun h => g_iast (iRow iCX12_laysLines_0 7 rfl) kn_94 ka_94 h) ?_
  refine s_nmM (fun M1 => ?_)
  refine s_step (g_iconst (iRow iCX12_laysLines_0 8 rfl) kc_0) ?_
  refine s_step (g_istore_n (ls' := [some (vR 13 0), some (vI a1), some (vI a2), some (vI (0 : Int32))]) (iRow iCX12_laysLines_0 9 rfl) rfl (by decide) rfl) ?_
  refine s_lp (fun z => [some (vR 13 0), some (vI a1), some (vI a2), some (vI (z.1))]) (fun z => z.2) (fun z => LM G (d + 0) YX12_laysLines Z 70 [none, none, none, none] [] z) rfl rfl ?_ ?_
  · rintro ⟨x2, M3⟩
    show SW G (d + 0) YX12_laysLines Z 14 [some (vR 13 0), some (vI a1), some (vI a2), some (vI x2)] [] M3 (b_X12_laysLines_1c F a1 a2 x2 M3) _
    unfold b_X12_laysLines_1c
    refine s_step (g_iload_n (iRow iCX12_laysLines_0 10 rfl) rfl rfl) ?_
    refine s_step (g_bipush (iRow iCX12_laysLines_0 11 rfl) kb_40) ?_
    refine s_if (g_icmp_ge (tgt := 70) (iRow iCX12_laysLines_0 12 rfl) (by decide)) (fun _ => ?_) (fun _ => ?_)
    · refine s_step (g_keep [false, false, false, false] rfl) ?_
      exact s_end (fun h => h)
    · refine s_step (g_aload_n (iRow iCX12_laysLines_0 13 rfl) rfl rfl) ?_
      refine s_step (g_getR (iRow iCX12_laysLines_0 14 rfl) f12_108 ko_13 (r_13_44 _ _)) ?_
      refine s_step (g_bipush (iRow iCX12_laysLines_0 15 rfl) kb_40) ?_
      refine s_step (g_iload_n (iRow iCX12_laysLines_0 16 rfl) rfl rfl) ?_
      refine s_step (g_imul (iRow iCX12_laysLines_0 17 rfl)) ?_
      refine s_step (g_iload_n (iRow iCX12_laysLines_0 18 rfl) rfl rfl) ?_
      refine s_step (g_iadd (iRow iCX12_laysLines_0 19 rfl)) ?_
      refine s_step (g_aload_n (iRow iCX12_laysLines_0 20 rfl) rfl rfl) ?_
      refine s_step (g_getR (iRow iCX12_laysLines_0 21 rfl) f12_108 ko_13 (r_13_44 _ _)) ?_
      refine s_step (g_bipush (iRow iCX12_laysLines_0 22 rfl) kb_40) ?_
      refine s_step (g_iload_n (iRow iCX12_laysLines_0 23 rfl) rfl rfl) ?_
      refine s_step (g_imul (iRow iCX12_laysLines_1 0 rfl)) ?_
      refine s_step (g_iload_n (iRow iCX12_laysLines_1 1 rfl) rfl rfl) ?_
      refine s_step (g_iadd (iRow iCX12_laysLines_1 2 rfl)) ?_
      refine s_gi (fun h => g_iald (iRow iCX12_laysLines_1 3 rfl) kn_95 ka_95 h) ?_
      refine s_gi (fun h => g_iast (iRow iCX12_laysLines_1 4 rfl) kn_95 ka_95 h) ?_
      refine s_nmM (fun M4 => ?_)
      refine s_step (g_aload_n (iRow iCX12_laysLines_1 5 rfl) rfl rfl) ?_
      refine s_step (g_getR (iRow iCX12_laysLines_1 6 rfl) f12_111 ko_13 (r_13_45 _ _)) ?_
      refine s_step (g_bipush (iRow iCX12_laysLines_1 7 rfl) kb_40) ?_
      refine s_step (g_iload_n (iRow iCX12_laysLines_1 8 rfl) rfl rfl) ?_
      refine s_step (g_imul (iRow iCX12_laysLines_1 9 rfl)) ?_
      refine s_step (g_iload_n (iRow iCX12_laysLines_1 10 rfl) rfl rfl) ?_
      refine s_step (g_iadd (iRow iCX12_laysLines_1 11 rfl)) ?_
      refine s_step (g_aload_n (iRow iCX12_laysLines_1 12 rfl) rfl rfl) ?_
      refine s_step (g_getR (iRow iCX12_laysLines_1 13 rfl) f12_111 ko_13 (r_13_45 _ _)) ?_
      refine s_step (g_bipush (iRow iCX12_laysLines_1 14 rfl) kb_40) ?_
      refine s_step (g_iload_n (iRow iCX12_laysLines_1 15 rfl) rfl rfl) ?_
      refine s_step (g_imul (iRow iCX12_laysLines_1 16 rfl)) ?_
      refine s_step (g_iload_n (iRow iCX12_laysLines_1 17 rfl) rfl rfl) ?_
      refine s_step (g_iadd (iRow iCX12_laysLines_1 18 rfl)) ?_
      refine s_gi (fun h => g_iald (iRow iCX12_laysLines_1 19 rfl) kn_96 ka_96 h) ?_
      refine s_gi (fun h => g_iast (iRow iCX12_laysLines_1 20 rfl) kn_96 ka_96 h) ?_
      refine s_nmM (fun M5 => ?_)
      refine s_step (g_iincc (c := 1) (ls' := [some (vR 13 0), some (vI a1), some (vI a2), some (vI (x2 + (1 : Int32)))]) (iRow iCX12_laysLines_1 21 rfl) rfl kc_1 (by decide) rfl) ?_
      refine s_step (g_goto (tgt := 14) (iRow iCX12_laysLines_1 22 rfl) (by decide)) ?_
      exact s_end (fun h => h)
  · rintro M6
    show SW G (d + 0) YX12_laysLines Z 70 [none, none, none, none] [] M6 _ _
    try dsimp only
    exact s_retv (iRow iCX12_laysLines_1 23 rfl) rfl
abbrev YX12_laysHeard : mY := (RX12, "laysHeard", cX12_laysHeard, 4, none, none)
set_option maxHeartbeats 400000 in
set_option maxRecDepth 20000 in
theorem t_X12_laysHeard {G : mg} {F : Nat} {a1 : Int32} {a2 : Int32} {M : mm} {M' : mm} (d : Nat) (h : m_X12_laysHeard F a1 a2 M = some M') : CM G yX12_laysHeard cX12_laysHeard 4 none (d + 0) [vR 13 0, vI a1, vI a2] M none M' := by
  refine ct_v (ls := [some (vR 13 0), some (vI a1), some (vI a2), none]) rfl rfl (Nat.le_of_ble_eq_true rfl) (fun Z => ?_) h
  show SW G (d + 0) YX12_laysHeard Z 0 [some (vR 13 0), some (vI a1), some (vI a2), none] [] M _ _
  unfold m_X12_laysHeard
  refine s_step (g_aload_n (iRow iCX12_laysHeard_0 0 rfl) rfl rfl) ?_
  refine s_step (g_getR (iRow iCX12_laysHeard_0 1 rfl) f12_114 ko_13 (r_13_46 _ _)) ?_
  refine s_step (g_iload_n (iRow iCX12_laysHeard_0 2 rfl) rfl rfl) ?_
  refine s_step (g_aload_n (iRow iCX12_laysHeard_0 3 rfl) rfl rfl) ?_
  refine s_step (g_getR (iRow iCX12_laysHeard_0 4 rfl) f12_114 ko_13 (r_13_46 _ _)) ?_
  refine s_step (g_iload_n (iRow iCX12_laysHeard_0 5 rfl) rfl rfl) ?_
  refine s_gi (fun h => g_iald (iRow iCX12_laysHeard_0 6 rfl) kn_97 ka_97 h) ?_
  refine s_gi (fun h => g_iast (iRow iCX12_laysHeard_0 7 rfl) kn_97 ka_97 h) ?_
  refine s_nmM (fun M1 => ?_)
  refine s_step (g_iconst (iRow iCX12_laysHeard_0 8 rfl) kc_0) ?_
  refine s_step (g_istore_n (ls' := [some (vR 13 0), some (vI a1), some (vI a2), some (vI (0 : Int32))]) (iRow iCX12_laysHeard_0 9 rfl) rfl (by decide) rfl) ?_
  refine s_lp (fun z => [some (vR 13 0), some (vI a1), some (vI a2), some (vI (z.1))]) (fun z => z.2) (fun z => LM G (d + 0) YX12_laysHeard Z 70 [none, none, none, none] [] z) rfl rfl ?_ ?_
  · rintro ⟨x2, M3⟩
    show SW G (d + 0) YX12_laysHeard Z 14 [some (vR 13 0), some (vI a1), some (vI a2), some (vI x2)] [] M3 (b_X12_laysHeard_1c F a1 a2 x2 M3) _
    unfold b_X12_laysHeard_1c
    refine s_step (g_iload_n (iRow iCX12_laysHeard_0 10 rfl) rfl rfl) ?_
    refine s_step (g_bipush (iRow iCX12_laysHeard_0 11 rfl) kb_10) ?_
    refine s_if (g_icmp_ge (tgt := 70) (iRow iCX12_laysHeard_0 12 rfl) (by decide)) (fun _ => ?_) (fun _ => ?_)
    · refine s_step (g_keep [false, false, false, false] rfl) ?_
      exact s_end (fun h => h)
    · refine s_step (g_aload_n (iRow iCX12_laysHeard_0 13 rfl) rfl rfl) ?_
      refine s_step (g_getR (iRow iCX12_laysHeard_0 14 rfl) f12_117 ko_13 (r_13_47 _ _)) ?_
      refine s_step (g_bipush (iRow iCX12_laysHeard_0 15 rfl) kb_10) ?_
      refine s_step (g_iload_n (iRow iCX12_laysHeard_0 16 rfl) rfl rfl) ?_
      refine s_step (g_imul (iRow iCX12_laysHeard_0 17 rfl)) ?_
      refine s_step (g_iload_n (iRow iCX12_laysHeard_0 18 rfl) rfl rfl) ?_
      refine s_step (g_iadd (iRow iCX12_laysHeard_0 19 rfl)) ?_
      refine s_step (g_aload_n (iRow iCX12_laysHeard_0 20 rfl) rfl rfl) ?_
      refine s_step (g_getR (iRow iCX12_laysHeard_0 21 rfl) f12_117 ko_13 (r_13_47 _ _)) ?_
      refine s_step (g_bipush (iRow iCX12_laysHeard_0 22 rfl) kb_10) ?_
      refine s_step (g_iload_n (iRow iCX12_laysHeard_0 23 rfl) rfl rfl) ?_
      refine s_step (g_imul (iRow iCX12_laysHeard_1 0 rfl)) ?_
      refine s_step (g_iload_n (iRow iCX12_laysHeard_1 1 rfl) rfl rfl) ?_
      refine s_step (g_iadd (iRow iCX12_laysHeard_1 2 rfl)) ?_
      refine s_gi (fun h => g_iald (iRow iCX12_laysHeard_1 3 rfl) kn_98 ka_98 h) ?_
      refine s_gi (fun h => g_iast (iRow iCX12_laysHeard_1 4 rfl) kn_98 ka_98 h) ?_
      refine s_nmM (fun M4 => ?_)
      refine s_step (g_aload_n (iRow iCX12_laysHeard_1 5 rfl) rfl rfl) ?_
      refine s_step (g_getR (iRow iCX12_laysHeard_1 6 rfl) f12_120 ko_13 (r_13_48 _ _)) ?_
      refine s_step (g_bipush (iRow iCX12_laysHeard_1 7 rfl) kb_10) ?_
      refine s_step (g_iload_n (iRow iCX12_laysHeard_1 8 rfl) rfl rfl) ?_
      refine s_step (g_imul (iRow iCX12_laysHeard_1 9 rfl)) ?_
      refine s_step (g_iload_n (iRow iCX12_laysHeard_1 10 rfl) rfl rfl) ?_
      refine s_step (g_iadd (iRow iCX12_laysHeard_1 11 rfl)) ?_
      refine s_step (g_aload_n (iRow iCX12_laysHeard_1 12 rfl) rfl rfl) ?_
      refine s_step (g_getR (iRow iCX12_laysHeard_1 13 rfl) f12_120 ko_13 (r_13_48 _ _)) ?_
      refine s_step (g_bipush (iRow iCX12_laysHeard_1 14 rfl) kb_10) ?_
      refine s_step (g_iload_n (iRow iCX12_laysHeard_1 15 rfl) rfl rfl) ?_
      refine s_step (g_imul (iRow iCX12_laysHeard_1 16 rfl)) ?_
      refine s_step (g_iload_n (iRow iCX12_laysHeard_1 17 rfl) rfl rfl) ?_
      refine s_step (g_iadd (iRow iCX12_laysHeard_1 18 rfl)) ?_
      refine s_gi (fun h => g_zald (iRow iCX12_laysHeard_1 19 rfl) kn_99 ka_99 h) ?_
      refine s_gi (fun h => g_zast (iRow iCX12_laysHeard_1 20 rfl) kn_99 ka_99 h) ?_
      refine s_nmM (fun M5 => ?_)
      refine s_step (g_iincc (c := 1) (ls' := [some (vR 13 0), some (vI a1), some (vI a2), some (vI (x2 + (1 : Int32)))]) (iRow iCX12_laysHeard_1 21 rfl) rfl kc_1 (by decide) rfl) ?_
      refine s_step (g_goto (tgt := 14) (iRow iCX12_laysHeard_1 22 rfl) (by decide)) ?_
      exact s_end (fun h => h)
  · rintro M6
    show SW G (d + 0) YX12_laysHeard Z 70 [none, none, none, none] [] M6 _ _
    try dsimp only
    exact s_retv (iRow iCX12_laysHeard_1 23 rfl) rfl
abbrev YX12_oathsOf : mY := (RX12, "oathsOf", cX12_oathsOf, 4, (some .int), none)
set_option maxHeartbeats 400000 in
set_option maxRecDepth 20000 in
theorem t_X12_oathsOf {G : mg} {F : Nat} {a1 : Int32} {M : mm} {x : Int32} {M' : mm} (d : Nat) (h : m_X12_oathsOf F a1 M = some (x, M')) : CM G yX12_oathsOf cX12_oathsOf 4 (some .int) (d + 0) [vR 13 0, vI a1] M (some (vI x)) M' := by
  refine ct_i (ls := [some (vR 13 0), some (vI a1), none, none]) rfl rfl (Nat.le_of_ble_eq_true rfl) (fun Z => ?_) h
  show SW G (d + 0) YX12_oathsOf Z 0 [some (vR 13 0), some (vI a1), none, none] [] M _ _
  unfold m_X12_oathsOf
  refine s_step (g_iconst (iRow iCX12_oathsOf_0 0 rfl) kc_0) ?_
  refine s_step (g_istore_n (ls' := [some (vR 13 0), some (vI a1), some (vI (0 : Int32)), none]) (iRow iCX12_oathsOf_0 1 rfl) rfl (by decide) rfl) ?_
  refine s_step (g_iconst (iRow iCX12_oathsOf_0 2 rfl) kc_0) ?_
  refine s_step (g_istore_n (ls' := [some (vR 13 0), some (vI a1), some (vI (0 : Int32)), some (vI (0 : Int32))]) (iRow iCX12_oathsOf_0 3 rfl) rfl (by decide) rfl) ?_
  refine s_lp (fun z => [some (vR 13 0), some (vI a1), some (vI (z.1)), some (vI (z.2))]) (fun _ => M) (fun z => LM G (d + 0) YX12_oathsOf Z 40 [none, none, some (vI z), none] [] M) rfl rfl ?_ ?_
  · rintro ⟨x1, x2⟩
    show SW G (d + 0) YX12_oathsOf Z 4 [some (vR 13 0), some (vI a1), some (vI x1), some (vI x2)] [] M (b_X12_oathsOf_1c F a1 M x1 x2) _
    unfold b_X12_oathsOf_1c
    refine s_step (g_iload_n (iRow iCX12_oathsOf_0 4 rfl) rfl rfl) ?_
    refine s_step (g_aload_n (iRow iCX12_oathsOf_0 5 rfl) rfl rfl) ?_
    refine s_step (g_getR (iRow iCX12_oathsOf_0 6 rfl) f12_13 ko_13 (r_13_10 _ _)) ?_
    refine s_step (g_iconst (iRow iCX12_oathsOf_0 7 rfl) kc_1) ?_
    refine s_gi (fun h => g_iald (iRow iCX12_oathsOf_0 8 rfl) kn_64 ka_64 h) ?_
    refine s_if (g_icmp_ge (tgt := 40) (iRow iCX12_oathsOf_0 9 rfl) (by decide)) (fun _ => ?_) (fun _ => ?_)
    · refine s_step (g_keep [false, false, true, false] rfl) ?_
      exact s_end (fun h => h)
    · refine s_step (g_iload_n (iRow iCX12_oathsOf_0 10 rfl) rfl rfl) ?_
      refine s_step (g_aload_n (iRow iCX12_oathsOf_0 11 rfl) rfl rfl) ?_
      refine s_step (g_getR (iRow iCX12_oathsOf_0 12 rfl) f12_35 ko_13 (r_13_17 _ _)) ?_
      refine s_step (g_iload_n (iRow iCX12_oathsOf_0 13 rfl) rfl rfl) ?_
      refine s_gi (fun h => g_iald (iRow iCX12_oathsOf_0 14 rfl) kn_71 ka_71 h) ?_
      refine s_step (g_iload_n (iRow iCX12_oathsOf_0 15 rfl) rfl rfl) ?_
      refine s_bd (fun z => LM G (d + 0) YX12_oathsOf Z 32 [some (vR 13 0), some (vI a1), none, some (vI x2)] [vI z, vI x1] M) ?_ ?_
      · refine s_ifn (g_icmp_ne (tgt := 31) (iRow iCX12_oathsOf_0 16 rfl) (by decide)) (fun _ => ?_) (fun _ => ?_)
        · refine s_step (g_iconst (iRow iCX12_oathsOf_0 17 rfl) kc_1) ?_
          refine s_step (g_iload_n (iRow iCX12_oathsOf_0 18 rfl) rfl rfl) ?_
          refine s_step (g_ishl (iRow iCX12_oathsOf_0 19 rfl)) ?_
          refine s_step (g_goto (tgt := 32) (iRow iCX12_oathsOf_0 20 rfl) (by decide)) ?_
          refine s_step (g_keep [true, true, false, true] rfl) ?_
          exact s_end (fun h => h)
        · refine s_step (g_iconst (iRow iCX12_oathsOf_0 21 rfl) kc_0) ?_
          refine s_step (g_keep [true, true, false, true] rfl) ?_
          exact s_end (fun h => h)
      · rintro x3
        show SW G (d + 0) YX12_oathsOf Z 32 [some (vR 13 0), some (vI a1), none, some (vI x2)] [vI x3, vI x1] M _ _
        try dsimp only
        refine s_step (g_ior (iRow iCX12_oathsOf_0 22 rfl)) ?_
        refine s_nmI (fun x4 => ?_)
        refine s_step (g_istore_n (ls' := [some (vR 13 0), some (vI a1), some (vI x4), some (vI x2)]) (iRow iCX12_oathsOf_0 23 rfl) rfl (by decide) rfl) ?_
        refine s_step (g_iincc (c := 1) (ls' := [some (vR 13 0), some (vI a1), some (vI x4), some (vI (x2 + (1 : Int32)))]) (iRow iCX12_oathsOf_1 0 rfl) rfl kc_1 (by decide) rfl) ?_
        refine s_step (g_goto (tgt := 4) (iRow iCX12_oathsOf_1 1 rfl) (by decide)) ?_
        exact s_end (fun h => h)
  · rintro x5
    show SW G (d + 0) YX12_oathsOf Z 40 [none, none, some (vI x5), none] [] M _ _
    try dsimp only
    refine s_step (g_iload_n (iRow iCX12_oathsOf_1 2 rfl) rfl rfl) ?_
    exact s_reti (iRow iCX12_oathsOf_1 3 rfl) rfl
abbrev YX12_strengthOf : mY := (RX12, "strengthOf", cX12_strengthOf, 6, (some .int), none)
set_option maxHeartbeats 400000 in
set_option maxRecDepth 20000 in
theorem t_X12_strengthOf {G : mg} {F : Nat} {a1 : Int32} {a2 : Int32} {M : mm} {x : Int32} {M' : mm} (d : Nat) (h : m_X12_strengthOf F a1 a2 M = some (x, M')) : CM G yX12_strengthOf cX12_strengthOf 6 (some .int) (d + 3) [vR 13 0, vI a1, vI a2] M (some (vI x)) M' := by
  refine ct_i (ls := [some (vR 13 0), some (vI a1), some (vI a2), none, none, none]) rfl rfl (Nat.le_of_ble_eq_true rfl) (fun Z => ?_) h
  show SW G (d + 3) YX12_strengthOf Z 0 [some (vR 13 0), some (vI a1), some (vI a2), none, none, none] [] M _ _
  unfold m_X12_strengthOf
  refine s_step (g_iload_n (iRow iCX12_strengthOf_0 0 rfl) rfl rfl) ?_
  refine s_step (g_iload_n (iRow iCX12_strengthOf_0 1 rfl) rfl rfl) ?_
  refine s_step (g_ishr (iRow iCX12_strengthOf_0 2 rfl)) ?_
  refine s_step (g_iconst (iRow iCX12_strengthOf_0 3 rfl) kc_1) ?_
  refine s_step (g_iand (iRow iCX12_strengthOf_0 4 rfl)) ?_
  refine s_step (g_iconst (iRow iCX12_strengthOf_0 5 rfl) kc_1) ?_
  refine s_ifn (g_icmp_ne (tgt := 11) (iRow iCX12_strengthOf_0 6 rfl) (by decide)) (fun _ => ?_) (fun _ => ?_)
  · refine s_step (g_iconst (iRow iCX12_strengthOf_0 7 rfl) kc_0) ?_
    exact s_reti (iRow iCX12_strengthOf_0 8 rfl) rfl
  · refine s_step (g_aload_n (iRow iCX12_strengthOf_0 9 rfl) rfl rfl) ?_
    refine s_step (g_aload_n (iRow iCX12_strengthOf_0 10 rfl) rfl rfl) ?_
    refine s_step (g_getR (iRow iCX12_strengthOf_0 11 rfl) f12_35 ko_13 (r_13_17 _ _)) ?_
    refine s_step (g_iload_n (iRow iCX12_strengthOf_0 12 rfl) rfl rfl) ?_
    refine s_gi (fun h => g_iald (iRow iCX12_strengthOf_0 13 rfl) kn_71 ka_71 h) ?_
    refine s_cl (sf := fun x => vI x :: []) (fun _ _ h => h_V (As := [_]) (iRow iCX12_strengthOf_0 14 rfl) l12_393 iX12_oathsOf ko_13 rfl rfl rfl rfl (t_X12_oathsOf (d + 2) h) rfl (by omega) (by decide) (Nat.le_of_ble_eq_true rfl)) (fun x2 M1 => ?_)
    refine s_step (g_iload_n (iRow iCX12_strengthOf_0 15 rfl) rfl rfl) ?_
    refine s_step (g_iconst (iRow iCX12_strengthOf_0 16 rfl) kc_m1) ?_
    refine s_step (g_ixor (iRow iCX12_strengthOf_0 17 rfl)) ?_
    refine s_step (g_iand (iRow iCX12_strengthOf_0 18 rfl)) ?_
    refine s_step (g_iconst (iRow iCX12_strengthOf_0 19 rfl) kc_1) ?_
    refine s_step (g_iload_n (iRow iCX12_strengthOf_0 20 rfl) rfl rfl) ?_
    refine s_step (g_ishl (iRow iCX12_strengthOf_0 21 rfl)) ?_
    refine s_step (g_iconst (iRow iCX12_strengthOf_0 22 rfl) kc_m1) ?_
    refine s_step (g_ixor (iRow iCX12_strengthOf_0 23 rfl)) ?_
    refine s_step (g_iand (iRow iCX12_strengthOf_1 0 rfl)) ?_
    refine s_bd (fun z => LM G (d + 3) YX12_strengthOf Z 39 [some (vR 13 0), some (vI a1), some (vI a2), none, none, none] [vI z] M1) ?_ ?_
    · refine s_ifn (g_if_ne (tgt := 38) (iRow iCX12_strengthOf_1 1 rfl) (by decide)) (fun _ => ?_) (fun _ => ?_)
      · refine s_step (g_iconst (iRow iCX12_strengthOf_1 2 rfl) kc_1) ?_
        refine s_step (g_goto (tgt := 39) (iRow iCX12_strengthOf_1 3 rfl) (by decide)) ?_
        exact s_end (fun h => h)
      · refine s_step (g_iconst (iRow iCX12_strengthOf_1 4 rfl) kc_0) ?_
        exact s_end (fun h => h)
    · rintro x3
      show SW G (d + 3) YX12_strengthOf Z 39 [some (vR 13 0), some (vI a1), some (vI a2), none, none, none] [vI x3] M1 _ _
      try dsimp only
      refine s_step (g_istore_n (ls' := [some (vR 13 0), some (vI a1), some (vI a2), some (vI x3), none, none]) (iRow iCX12_strengthOf_1 5 rfl) rfl (by decide) rfl) ?_
      refine s_step (g_aload_n (iRow iCX12_strengthOf_1 6 rfl) rfl rfl) ?_
      refine s_step (g_getR (iRow iCX12_strengthOf_1 7 rfl) f12_38 ko_13 (r_13_18 _ _)) ?_
      refine s_step (g_iload_n (iRow iCX12_strengthOf_1 8 rfl) rfl rfl) ?_
      refine s_gi (fun h => g_iald (iRow iCX12_strengthOf_1 9 rfl) kn_72 ka_72 h) ?_
      refine s_nmI (fun x4 => ?_)
      refine s_step (g_istore (ls' := [some (vR 13 0), some (vI a1), some (vI a2), some (vI x3), some (vI x4), none]) (iRow iCX12_strengthOf_1 10 rfl) (by decide) rfl) ?_
      refine s_step (g_aload_n (iRow iCX12_strengthOf_1 11 rfl) rfl rfl) ?_
      refine s_step (g_getR (iRow iCX12_strengthOf_1 12 rfl) f12_62 ko_13 (r_13_26 _ _)) ?_
      refine s_step (g_iconst (iRow iCX12_strengthOf_1 13 rfl) kc_0) ?_
      refine s_gi (fun h => g_iald (iRow iCX12_strengthOf_1 14 rfl) kn_80 ka_80 h) ?_
      refine s_step (g_aload_n (iRow iCX12_strengthOf_1 15 rfl) rfl rfl) ?_
      refine s_step (g_getR (iRow iCX12_strengthOf_1 16 rfl) f12_59 ko_13 (r_13_25 _ _)) ?_
      refine s_step (g_iconst (iRow iCX12_strengthOf_1 17 rfl) kc_0) ?_
      refine s_gi (fun h => g_iald (iRow iCX12_strengthOf_1 18 rfl) kn_79 ka_79 h) ?_
      refine s_bd (fun z => LM G (d + 3) YX12_strengthOf Z 168 [some (vR 13 0), some (vI a1), some (vI a2), none, some (vI (z.1)), none] [] z.2) ?_ ?_
      · refine s_if (g_icmp_le (tgt := 124) (iRow iCX12_strengthOf_1 19 rfl) (by decide)) (fun _ => ?_) (fun _ => ?_)
        · refine s_step (g_aload_n (iRow iCX12_strengthOf_3 10 rfl) rfl rfl) ?_
          refine s_step (g_getR (iRow iCX12_strengthOf_3 11 rfl) f12_32 ko_13 (r_13_16 _ _)) ?_
          refine s_step (g_iload_n (iRow iCX12_strengthOf_3 12 rfl) rfl rfl) ?_
          refine s_gi (fun h => g_iald (iRow iCX12_strengthOf_3 13 rfl) kn_70 ka_70 h) ?_
          refine s_step (g_iconst (iRow iCX12_strengthOf_3 14 rfl) kc_1) ?_
          refine s_ifn (g_icmp_ne (tgt := 148) (iRow iCX12_strengthOf_3 15 rfl) (by decide)) (fun _ => ?_) (fun _ => ?_)
          · refine s_step (g_iload (iRow iCX12_strengthOf_3 16 rfl) rfl) ?_
            refine s_step (g_aload_n (iRow iCX12_strengthOf_3 17 rfl) rfl rfl) ?_
            refine s_step (g_getR (iRow iCX12_strengthOf_3 18 rfl) f12_123 ko_13 (r_13_49 _ _)) ?_
            refine s_step (g_iconst (iRow iCX12_strengthOf_3 19 rfl) kc_0) ?_
            refine s_gi (fun h => g_iald (iRow iCX12_strengthOf_3 20 rfl) kn_100 ka_100 h) ?_
            refine s_step (g_iadd (iRow iCX12_strengthOf_3 21 rfl)) ?_
            refine s_nmI (fun x6 => ?_)
            refine s_step (g_istore (ls' := [some (vR 13 0), some (vI a1), some (vI a2), some (vI x3), some (vI x6), none]) (iRow iCX12_strengthOf_3 22 rfl) (by decide) rfl) ?_
            refine s_step (g_goto (tgt := 168) (iRow iCX12_strengthOf_3 23 rfl) (by decide)) ?_
            refine s_step (g_keep [true, true, true, false, true, false] rfl) ?_
            exact s_end (fun h => h)
          · refine s_step (g_aload_n (iRow iCX12_strengthOf_4 0 rfl) rfl rfl) ?_
            refine s_step (g_getR (iRow iCX12_strengthOf_4 1 rfl) f12_32 ko_13 (r_13_16 _ _)) ?_
            refine s_step (g_iload_n (iRow iCX12_strengthOf_4 2 rfl) rfl rfl) ?_
            refine s_gi (fun h => g_iald (iRow iCX12_strengthOf_4 3 rfl) kn_70 ka_70 h) ?_
            refine s_step (g_iconst (iRow iCX12_strengthOf_4 4 rfl) kc_3) ?_
            refine s_ifn (g_icmp_ne (tgt := 168) (iRow iCX12_strengthOf_4 5 rfl) (by decide)) (fun _ => ?_) (fun _ => ?_)
            · refine s_step (g_iload_n (iRow iCX12_strengthOf_4 6 rfl) rfl rfl) ?_
              refine s_if (g_if_eq (tgt := 168) (iRow iCX12_strengthOf_4 7 rfl) (by decide)) (fun _ => ?_) (fun _ => ?_)
              · refine s_step (g_keep [true, true, true, false, true, false] rfl) ?_
                exact s_end (fun h => h)
              · refine s_step (g_iload (iRow iCX12_strengthOf_4 8 rfl) rfl) ?_
                refine s_step (g_iconst (iRow iCX12_strengthOf_4 9 rfl) kc_2) ?_
                refine s_step (g_imul (iRow iCX12_strengthOf_4 10 rfl)) ?_
                refine s_nmI (fun x5 => ?_)
                refine s_step (g_istore (ls' := [some (vR 13 0), some (vI a1), some (vI a2), some (vI x3), some (vI x5), none]) (iRow iCX12_strengthOf_4 11 rfl) (by decide) rfl) ?_
                refine s_step (g_keep [true, true, true, false, true, false] rfl) ?_
                exact s_end (fun h => h)
            · refine s_step (g_keep [true, true, true, false, true, false] rfl) ?_
              exact s_end (fun h => h)
        · refine s_step (g_aload_n (iRow iCX12_strengthOf_1 20 rfl) rfl rfl) ?_
          refine s_step (g_getR (iRow iCX12_strengthOf_1 21 rfl) f12_102 ko_13 (r_13_41 _ _)) ?_
          refine s_step (g_iconst (iRow iCX12_strengthOf_1 22 rfl) kc_1) ?_
          refine s_step (g_aload_n (iRow iCX12_strengthOf_1 23 rfl) rfl rfl) ?_
          refine s_step (g_getR (iRow iCX12_strengthOf_2 0 rfl) f12_38 ko_13 (r_13_18 _ _)) ?_
          refine s_step (g_iload_n (iRow iCX12_strengthOf_2 1 rfl) rfl rfl) ?_
          refine s_gi (fun h => g_iald (iRow iCX12_strengthOf_2 2 rfl) kn_72 ka_72 h) ?_
          refine s_gi (fun h => g_iast (iRow iCX12_strengthOf_2 3 rfl) kn_93 ka_93 h) ?_
          refine s_nmM (fun M7 => ?_)
          refine s_step (g_aload_n (iRow iCX12_strengthOf_2 4 rfl) rfl rfl) ?_
          refine s_step (g_getR (iRow iCX12_strengthOf_2 5 rfl) f12_102 ko_13 (r_13_41 _ _)) ?_
          refine s_step (g_iconst (iRow iCX12_strengthOf_2 6 rfl) kc_2) ?_
          refine s_step (g_aload_n (iRow iCX12_strengthOf_2 7 rfl) rfl rfl) ?_
          refine s_step (g_getR (iRow iCX12_strengthOf_2 8 rfl) f12_123 ko_13 (r_13_49 _ _)) ?_
          refine s_step (g_iconst (iRow iCX12_strengthOf_2 9 rfl) kc_0) ?_
          refine s_gi (fun h => g_iald (iRow iCX12_strengthOf_2 10 rfl) kn_100 ka_100 h) ?_
          refine s_gi (fun h => g_iast (iRow iCX12_strengthOf_2 11 rfl) kn_93 ka_93 h) ?_
          refine s_nmM (fun M8 => ?_)
          refine s_step (g_aload_n (iRow iCX12_strengthOf_2 12 rfl) rfl rfl) ?_
          refine s_step (g_getR (iRow iCX12_strengthOf_2 13 rfl) f12_102 ko_13 (r_13_41 _ _)) ?_
          refine s_step (g_iconst (iRow iCX12_strengthOf_2 14 rfl) kc_3) ?_
          refine s_step (g_aload_n (iRow iCX12_strengthOf_2 15 rfl) rfl rfl) ?_
          refine s_step (g_getR (iRow iCX12_strengthOf_2 16 rfl) f12_32 ko_13 (r_13_16 _ _)) ?_
          refine s_step (g_iload_n (iRow iCX12_strengthOf_2 17 rfl) rfl rfl) ?_
          refine s_gi (fun h => g_iald (iRow iCX12_strengthOf_2 18 rfl) kn_70 ka_70 h) ?_
          refine s_gi (fun h => g_iast (iRow iCX12_strengthOf_2 19 rfl) kn_93 ka_93 h) ?_
          refine s_nmM (fun M9 => ?_)
          refine s_step (g_aload_n (iRow iCX12_strengthOf_2 20 rfl) rfl rfl) ?_
          refine s_step (g_getR (iRow iCX12_strengthOf_2 21 rfl) f12_102 ko_13 (r_13_41 _ _)) ?_
          refine s_step (g_iconst (iRow iCX12_strengthOf_2 22 rfl) kc_4) ?_
          refine s_step (g_iload_n (iRow iCX12_strengthOf_2 23 rfl) rfl rfl) ?_
          refine s_bd (fun z => LM G (d + 3) YX12_strengthOf Z 113 [some (vR 13 0), some (vI a1), some (vI a2), none, none, none] [vI z, vI (4 : Int32), vR 93 0] M9) ?_ ?_
          · refine s_if (g_if_eq (tgt := 112) (iRow iCX12_strengthOf_3 0 rfl) (by decide)) (fun _ => ?_) (fun _ => ?_)
            · refine s_step (g_iconst (iRow iCX12_strengthOf_3 3 rfl) kc_0) ?_
              refine s_step (g_keep [true, true, true, false, false, false] rfl) ?_
              exact s_end (fun h => h)
            · refine s_step (g_iconst (iRow iCX12_strengthOf_3 1 rfl) kc_1) ?_
              refine s_step (g_goto (tgt := 113) (iRow iCX12_strengthOf_3 2 rfl) (by decide)) ?_
              refine s_step (g_keep [true, true, true, false, false, false] rfl) ?_
              exact s_end (fun h => h)
          · rintro x10
            show SW G (d + 3) YX12_strengthOf Z 113 [some (vR 13 0), some (vI a1), some (vI a2), none, none, none] [vI x10, vI (4 : Int32), vR 93 0] M9 _ _
            try dsimp only
            refine s_gi (fun h => g_iast (iRow iCX12_strengthOf_3 4 rfl) kn_93 ka_93 h) ?_
            refine s_nmM (fun M11 => ?_)
            refine s_step (g_aload_n (iRow iCX12_strengthOf_3 5 rfl) rfl rfl) ?_
            refine s_step (g_iconst (iRow iCX12_strengthOf_3 6 rfl) kc_0) ?_
            refine s_cl (sf := fun x => vI x :: []) (fun _ _ h => h_V (As := [_]) (iRow iCX12_strengthOf_3 7 rfl) l12_396 iX12_worked ko_13 rfl rfl rfl rfl (t_X12_worked (d + 0) h) rfl (by omega) (by decide) (Nat.le_of_ble_eq_true rfl)) (fun x13 M12 => ?_)
            refine s_step (g_istore (ls' := [some (vR 13 0), some (vI a1), some (vI a2), none, some (vI x13), none]) (iRow iCX12_strengthOf_3 8 rfl) (by decide) rfl) ?_
            refine s_step (g_goto (tgt := 168) (iRow iCX12_strengthOf_3 9 rfl) (by decide)) ?_
            exact s_end (fun h => h)
      · rintro ⟨x14, M15⟩
        show SW G (d + 3) YX12_strengthOf Z 168 [some (vR 13 0), some (vI a1), some (vI a2), none, some (vI x14), none] [] M15 _ _
        try dsimp only
        refine s_step (g_iload (iRow iCX12_strengthOf_4 12 rfl) rfl) ?_
        refine s_step (g_iconst (iRow iCX12_strengthOf_4 13 rfl) kc_0) ?_
        refine s_step (g_sipush (iRow iCX12_strengthOf_4 14 rfl) ks_999) ?_
        refine s_cl (sf := fun x => vI x :: []) (fun _ _ h => h_S (As := [_, _, _]) (iRow iCX12_strengthOf_4 15 rfl) l12_399 iX12_between rfl rfl (t_X12_between (d + 2) h) rfl (by omega) (by decide) (Nat.le_of_ble_eq_true rfl)) (fun x17 M16 => ?_)
        refine s_step (g_istore (ls' := [some (vR 13 0), some (vI a1), some (vI a2), none, some (vI x17), none]) (iRow iCX12_strengthOf_4 16 rfl) (by decide) rfl) ?_
        refine s_step (g_aload_n (iRow iCX12_strengthOf_4 17 rfl) rfl rfl) ?_
        refine s_step (g_getR (iRow iCX12_strengthOf_4 18 rfl) f12_123 ko_13 (r_13_49 _ _)) ?_
        refine s_step (g_iconst (iRow iCX12_strengthOf_4 19 rfl) kc_2) ?_
        refine s_gi (fun h => g_iald (iRow iCX12_strengthOf_4 20 rfl) kn_100 ka_100 h) ?_
        refine s_step (g_iload_n (iRow iCX12_strengthOf_4 21 rfl) rfl rfl) ?_
        refine s_step (g_ishr (iRow iCX12_strengthOf_4 22 rfl)) ?_
        refine s_step (g_iconst (iRow iCX12_strengthOf_4 23 rfl) kc_1) ?_
        refine s_step (g_iand (iRow iCX12_strengthOf_5 0 rfl)) ?_
        refine s_step (g_iconst (iRow iCX12_strengthOf_5 1 rfl) kc_1) ?_
        refine s_bd (fun z => LM G (d + 3) YX12_strengthOf Z 207 [some (vR 13 0), some (vI a1), some (vI a2), none, some (vI z), none] [] M16) ?_ ?_
        · refine s_ifn (g_icmp_ne (tgt := 207) (iRow iCX12_strengthOf_5 2 rfl) (by decide)) (fun _ => ?_) (fun _ => ?_)
          · refine s_step (g_iload (iRow iCX12_strengthOf_5 3 rfl) rfl) ?_
            refine s_step (g_aload_n (iRow iCX12_strengthOf_5 4 rfl) rfl rfl) ?_
            refine s_step (g_getR (iRow iCX12_strengthOf_5 5 rfl) f12_13 ko_13 (r_13_10 _ _)) ?_
            refine s_step (g_iconst (iRow iCX12_strengthOf_5 6 rfl) kc_3) ?_
            refine s_gi (fun h => g_iald (iRow iCX12_strengthOf_5 7 rfl) kn_64 ka_64 h) ?_
            refine s_step (g_imul (iRow iCX12_strengthOf_5 8 rfl)) ?_
            refine s_step (g_bipush (iRow iCX12_strengthOf_5 9 rfl) kb_10) ?_
            refine s_step (g_idiv (iRow iCX12_strengthOf_5 10 rfl) (by decide)) ?_
            refine s_nmI (fun x18 => ?_)
            refine s_step (g_istore (ls' := [some (vR 13 0), some (vI a1), some (vI a2), none, some (vI x18), none]) (iRow iCX12_strengthOf_5 11 rfl) (by decide) rfl) ?_
            exact s_end (fun h => h)
          · exact s_end (fun h => h)
        · rintro x19
          show SW G (d + 3) YX12_strengthOf Z 207 [some (vR 13 0), some (vI a1), some (vI a2), none, some (vI x19), none] [] M16 _ _
          try dsimp only
          refine s_step (g_aload_n (iRow iCX12_strengthOf_5 12 rfl) rfl rfl) ?_
          refine s_step (g_getR (iRow iCX12_strengthOf_5 13 rfl) f12_41 ko_13 (r_13_19 _ _)) ?_
          refine s_step (g_iload_n (iRow iCX12_strengthOf_5 14 rfl) rfl rfl) ?_
          refine s_gi (fun h => g_iald (iRow iCX12_strengthOf_5 15 rfl) kn_73 ka_73 h) ?_
          refine s_nmI (fun x20 => ?_)
          refine s_step (g_istore (ls' := [some (vR 13 0), some (vI a1), some (vI a2), none, some (vI x19), some (vI x20)]) (iRow iCX12_strengthOf_5 16 rfl) (by decide) rfl) ?_
          refine s_step (g_iload (iRow iCX12_strengthOf_5 17 rfl) rfl) ?_
          refine s_if (g_if_ge (tgt := 225) (iRow iCX12_strengthOf_5 18 rfl) (by decide)) (fun _ => ?_) (fun _ => ?_)
          · refine s_step (g_iload_n (iRow iCX12_strengthOf_5 21 rfl) rfl rfl) ?_
            refine s_step (g_iload (iRow iCX12_strengthOf_5 22 rfl) rfl) ?_
            refine s_step (g_ishr (iRow iCX12_strengthOf_5 23 rfl)) ?_
            refine s_step (g_iconst (iRow iCX12_strengthOf_6 0 rfl) kc_1) ?_
            refine s_step (g_iand (iRow iCX12_strengthOf_6 1 rfl)) ?_
            refine s_step (g_iconst (iRow iCX12_strengthOf_6 2 rfl) kc_1) ?_
            refine s_ifn (g_icmp_ne (tgt := 239) (iRow iCX12_strengthOf_6 3 rfl) (by decide)) (fun _ => ?_) (fun _ => ?_)
            · refine s_step (g_iconst (iRow iCX12_strengthOf_6 4 rfl) kc_0) ?_
              refine s_step (g_goto (tgt := 243) (iRow iCX12_strengthOf_6 5 rfl) (by decide)) ?_
              exact s_reti (iRow iCX12_strengthOf_6 9 rfl) rfl
            · refine s_step (g_iload (iRow iCX12_strengthOf_6 6 rfl) rfl) ?_
              refine s_step (g_iconst (iRow iCX12_strengthOf_6 7 rfl) kc_5) ?_
              refine s_step (g_iadd (iRow iCX12_strengthOf_6 8 rfl)) ?_
              exact s_reti (iRow iCX12_strengthOf_6 9 rfl) rfl
          · refine s_step (g_iload (iRow iCX12_strengthOf_5 19 rfl) rfl) ?_
            refine s_step (g_goto (tgt := 243) (iRow iCX12_strengthOf_5 20 rfl) (by decide)) ?_
            exact s_reti (iRow iCX12_strengthOf_6 9 rfl) rfl
abbrev YX12_laysStrengths : mY := (RX12, "laysStrengths", cX12_laysStrengths, 4, none, none)
set_option maxHeartbeats 400000 in
set_option maxRecDepth 20000 in
theorem t_X12_laysStrengths {G : mg} {F : Nat} {a1 : Int32} {M : mm} {M' : mm} (d : Nat) (h : m_X12_laysStrengths F a1 M = some M') : CM G yX12_laysStrengths cX12_laysStrengths 4 none (d + 4) [vR 13 0, vI a1] M none M' := by
  refine ct_v (ls := [some (vR 13 0), some (vI a1), none, none]) rfl rfl (Nat.le_of_ble_eq_true rfl) (fun Z => ?_) h
  show SW G (d + 4) YX12_laysStrengths Z 0 [some (vR 13 0), some (vI a1), none, none] [] M _ _
  unfold m_X12_laysStrengths
  refine s_step (g_iconst (iRow iCX12_laysStrengths_0 0 rfl) kc_1) ?_
  refine s_step (g_istore_n (ls' := [some (vR 13 0), some (vI a1), some (vI (1 : Int32)), none]) (iRow iCX12_laysStrengths_0 1 rfl) rfl (by decide) rfl) ?_
  refine s_lp (fun z => [some (vR 13 0), some (vI a1), some (vI (z.1)), none]) (fun z => z.2) (fun z => LM G (d + 4) YX12_laysStrengths Z 77 [none, none, none, none] [] z) rfl rfl ?_ ?_
  · rintro ⟨x1, M2⟩
    show SW G (d + 4) YX12_laysStrengths Z 2 [some (vR 13 0), some (vI a1), some (vI x1), none] [] M2 (b_X12_laysStrengths_1c F a1 x1 M2) _
    unfold b_X12_laysStrengths_1c
    refine s_step (g_iload_n (iRow iCX12_laysStrengths_0 2 rfl) rfl rfl) ?_
    refine s_step (g_iconst (iRow iCX12_laysStrengths_0 3 rfl) kc_1) ?_
    refine s_step (g_aload_n (iRow iCX12_laysStrengths_0 4 rfl) rfl rfl) ?_
    refine s_step (g_getR (iRow iCX12_laysStrengths_0 5 rfl) f12_13 ko_13 (r_13_10 _ _)) ?_
    refine s_step (g_iconst (iRow iCX12_laysStrengths_0 6 rfl) kc_1) ?_
    refine s_gi (fun h => g_iald (iRow iCX12_laysStrengths_0 7 rfl) kn_64 ka_64 h) ?_
    refine s_step (g_ishl (iRow iCX12_laysStrengths_0 8 rfl)) ?_
    refine s_if (g_icmp_ge (tgt := 77) (iRow iCX12_laysStrengths_0 9 rfl) (by decide)) (fun _ => ?_) (fun _ => ?_)
    · refine s_step (g_keep [false, false, false, false] rfl) ?_
      exact s_end (fun h => h)
    · refine s_step (g_iconst (iRow iCX12_laysStrengths_0 10 rfl) kc_0) ?_
      refine s_step (g_istore_n (ls' := [some (vR 13 0), some (vI a1), some (vI x1), some (vI (0 : Int32))]) (iRow iCX12_laysStrengths_0 11 rfl) rfl (by decide) rfl) ?_
      refine s_lp (fun z => [some (vR 13 0), some (vI a1), some (vI x1), some (vI z)]) (fun _ => M2) (fun z => LM G (d + 4) YX12_laysStrengths Z 30 [some (vR 13 0), some (vI a1), some (vI x1), some (vI z)] [] M2) rfl rfl ?_ ?_
      · rintro x3
        show SW G (d + 4) YX12_laysStrengths Z 16 [some (vR 13 0), some (vI a1), some (vI x1), some (vI x3)] [] M2 (b_X12_laysStrengths_2c F x1 x3) _
        unfold b_X12_laysStrengths_2c
        refine s_step (g_iload_n (iRow iCX12_laysStrengths_0 12 rfl) rfl rfl) ?_
        refine s_step (g_iload_n (iRow iCX12_laysStrengths_0 13 rfl) rfl rfl) ?_
        refine s_step (g_ishr (iRow iCX12_laysStrengths_0 14 rfl)) ?_
        refine s_step (g_iconst (iRow iCX12_laysStrengths_0 15 rfl) kc_1) ?_
        refine s_step (g_iand (iRow iCX12_laysStrengths_0 16 rfl)) ?_
        refine s_ifn (g_if_ne (tgt := 30) (iRow iCX12_laysStrengths_0 17 rfl) (by decide)) (fun _ => ?_) (fun _ => ?_)
        · refine s_step (g_iincc (c := 1) (ls' := [some (vR 13 0), some (vI a1), some (vI x1), some (vI (x3 + (1 : Int32)))]) (iRow iCX12_laysStrengths_0 18 rfl) rfl kc_1 (by decide) rfl) ?_
          refine s_step (g_goto (tgt := 16) (iRow iCX12_laysStrengths_0 19 rfl) (by decide)) ?_
          exact s_end (fun h => h)
        · exact s_end (fun h => h)
      · rintro x4
        show SW G (d + 4) YX12_laysStrengths Z 30 [some (vR 13 0), some (vI a1), some (vI x1), some (vI x4)] [] M2 _ _
        try dsimp only
        refine s_step (g_aload_n (iRow iCX12_laysStrengths_0 20 rfl) rfl rfl) ?_
        refine s_step (g_getR (iRow iCX12_laysStrengths_0 21 rfl) f12_138 ko_13 (r_13_55 _ _)) ?_
        refine s_step (g_iload_n (iRow iCX12_laysStrengths_0 22 rfl) rfl rfl) ?_
        refine s_step (g_aload_n (iRow iCX12_laysStrengths_0 23 rfl) rfl rfl) ?_
        refine s_step (g_getR (iRow iCX12_laysStrengths_1 0 rfl) f12_138 ko_13 (r_13_55 _ _)) ?_
        refine s_step (g_iload_n (iRow iCX12_laysStrengths_1 1 rfl) rfl rfl) ?_
        refine s_step (g_iload_n (iRow iCX12_laysStrengths_1 2 rfl) rfl rfl) ?_
        refine s_step (g_iconst (iRow iCX12_laysStrengths_1 3 rfl) kc_1) ?_
        refine s_step (g_isub (iRow iCX12_laysStrengths_1 4 rfl)) ?_
        refine s_step (g_iand (iRow iCX12_laysStrengths_1 5 rfl)) ?_
        refine s_gi (fun h => g_iald (iRow iCX12_laysStrengths_1 6 rfl) kn_105 ka_105 h) ?_
        refine s_step (g_iload_n (iRow iCX12_laysStrengths_1 7 rfl) rfl rfl) ?_
        refine s_step (g_iconst (iRow iCX12_laysStrengths_1 8 rfl) kc_1) ?_
        refine s_step (g_iload_n (iRow iCX12_laysStrengths_1 9 rfl) rfl rfl) ?_
        refine s_step (g_ishl (iRow iCX12_laysStrengths_1 10 rfl)) ?_
        refine s_bd (fun z => LM G (d + 4) YX12_laysStrengths Z 69 [some (vR 13 0), some (vI a1), some (vI x1), none] [vI (z.1), vI (M2.1 105 0 (Int32.toNatClampNeg (x1 &&& (x1 - (1 : Int32))))), vI x1, vR 105 0] z.2) ?_ ?_
        · refine s_ifn (g_icmp_ne (tgt := 61) (iRow iCX12_laysStrengths_1 11 rfl) (by decide)) (fun _ => ?_) (fun _ => ?_)
          · refine s_step (g_aload_n (iRow iCX12_laysStrengths_1 12 rfl) rfl rfl) ?_
            refine s_step (g_iload_n (iRow iCX12_laysStrengths_1 13 rfl) rfl rfl) ?_
            refine s_step (g_iload_n (iRow iCX12_laysStrengths_1 14 rfl) rfl rfl) ?_
            refine s_cl (sf := fun x => vI x :: [vI (M2.1 105 0 (Int32.toNatClampNeg (x1 &&& (x1 - (1 : Int32))))), vI x1, vR 105 0]) (fun _ _ h => h_V (As := [_, _]) (iRow iCX12_laysStrengths_1 15 rfl) l12_403 iX12_strengthOf ko_13 rfl rfl rfl rfl (t_X12_strengthOf (d + 0) h) rfl (by omega) (by decide) (Nat.le_of_ble_eq_true rfl)) (fun x6 M5 => ?_)
            refine s_step (g_goto (tgt := 69) (iRow iCX12_laysStrengths_1 16 rfl) (by decide)) ?_
            refine s_step (g_keep [true, true, true, false] rfl) ?_
            exact s_end (fun h => h)
          · refine s_step (g_aload_n (iRow iCX12_laysStrengths_1 17 rfl) rfl rfl) ?_
            refine s_step (g_getR (iRow iCX12_laysStrengths_1 18 rfl) f12_138 ko_13 (r_13_55 _ _)) ?_
            refine s_step (g_iconst (iRow iCX12_laysStrengths_1 19 rfl) kc_1) ?_
            refine s_step (g_iload_n (iRow iCX12_laysStrengths_1 20 rfl) rfl rfl) ?_
            refine s_step (g_ishl (iRow iCX12_laysStrengths_1 21 rfl)) ?_
            refine s_gi (fun h => g_iald (iRow iCX12_laysStrengths_1 22 rfl) kn_105 ka_105 h) ?_
            refine s_step (g_keep [true, true, true, false] rfl) ?_
            exact s_end (fun h => h)
        · rintro ⟨x7, M8⟩
          show SW G (d + 4) YX12_laysStrengths Z 69 [some (vR 13 0), some (vI a1), some (vI x1), none] [vI x7, vI (M2.1 105 0 (Int32.toNatClampNeg (x1 &&& (x1 - (1 : Int32))))), vI x1, vR 105 0] M8 _ _
          try dsimp only
          refine s_step (g_iadd (iRow iCX12_laysStrengths_1 23 rfl)) ?_
          refine s_gi (fun h => g_iast (iRow iCX12_laysStrengths_2 0 rfl) kn_105 ka_105 h) ?_
          refine s_nmM (fun M9 => ?_)
          refine s_step (g_iincc (c := 1) (ls' := [some (vR 13 0), some (vI a1), some (vI (x1 + (1 : Int32))), none]) (iRow iCX12_laysStrengths_2 1 rfl) rfl kc_1 (by decide) rfl) ?_
          refine s_step (g_goto (tgt := 2) (iRow iCX12_laysStrengths_2 2 rfl) (by decide)) ?_
          exact s_end (fun h => h)
  · rintro M10
    show SW G (d + 4) YX12_laysStrengths Z 77 [none, none, none, none] [] M10 _ _
    try dsimp only
    exact s_retv (iRow iCX12_laysStrengths_2 3 rfl) rfl
abbrev YX12_laysRests : mY := (RX12, "laysRests", cX12_laysRests, 4, none, none)
set_option maxHeartbeats 400000 in
set_option maxRecDepth 20000 in
theorem t_X12_laysRests {G : mg} {F : Nat} {a1 : Int32} {M : mm} {M' : mm} (d : Nat) (h : m_X12_laysRests F a1 M = some M') : CM G yX12_laysRests cX12_laysRests 4 none (d + 0) [vR 13 0, vI a1] M none M' := by
  refine ct_v (ls := [some (vR 13 0), some (vI a1), none, none]) rfl rfl (Nat.le_of_ble_eq_true rfl) (fun Z => ?_) h
  show SW G (d + 0) YX12_laysRests Z 0 [some (vR 13 0), some (vI a1), none, none] [] M _ _
  unfold m_X12_laysRests
  refine s_step (g_iconst (iRow iCX12_laysRests_0 0 rfl) kc_0) ?_
  refine s_step (g_istore_n (ls' := [some (vR 13 0), some (vI a1), some (vI (0 : Int32)), none]) (iRow iCX12_laysRests_0 1 rfl) rfl (by decide) rfl) ?_
  refine s_lp (fun z => [some (vR 13 0), some (vI a1), some (vI (z.1)), none]) (fun z => z.2) (fun z => LM G (d + 0) YX12_laysRests Z 70 [none, none, none, none] [] z) rfl rfl ?_ ?_
  · rintro ⟨x1, M2⟩
    show SW G (d + 0) YX12_laysRests Z 2 [some (vR 13 0), some (vI a1), some (vI x1), none] [] M2 (b_X12_laysRests_1c F a1 x1 M2) _
    unfold b_X12_laysRests_1c
    refine s_step (g_iload_n (iRow iCX12_laysRests_0 2 rfl) rfl rfl) ?_
    refine s_step (g_bipush (iRow iCX12_laysRests_0 3 rfl) kb_11) ?_
    refine s_if (g_icmp_ge (tgt := 70) (iRow iCX12_laysRests_0 4 rfl) (by decide)) (fun _ => ?_) (fun _ => ?_)
    · refine s_step (g_keep [false, false, false, false] rfl) ?_
      exact s_end (fun h => h)
    · refine s_step (g_aload_n (iRow iCX12_laysRests_0 5 rfl) rfl rfl) ?_
      refine s_step (g_getR (iRow iCX12_laysRests_0 6 rfl) f12_141 ko_13 (r_13_56 _ _)) ?_
      refine s_step (g_iload_n (iRow iCX12_laysRests_0 7 rfl) rfl rfl) ?_
      refine s_step (g_aload_n (iRow iCX12_laysRests_0 8 rfl) rfl rfl) ?_
      refine s_step (g_getR (iRow iCX12_laysRests_0 9 rfl) f12_53 ko_13 (r_13_23 _ _)) ?_
      refine s_step (g_iload_n (iRow iCX12_laysRests_0 10 rfl) rfl rfl) ?_
      refine s_gi (fun h => g_iald (iRow iCX12_laysRests_0 11 rfl) kn_77 ka_77 h) ?_
      refine s_gi (fun h => g_iast (iRow iCX12_laysRests_0 12 rfl) kn_106 ka_106 h) ?_
      refine s_nmM (fun M3 => ?_)
      refine s_step (g_iconst (iRow iCX12_laysRests_0 13 rfl) kc_0) ?_
      refine s_step (g_istore_n (ls' := [some (vR 13 0), some (vI a1), some (vI x1), some (vI (0 : Int32))]) (iRow iCX12_laysRests_0 14 rfl) rfl (by decide) rfl) ?_
      refine s_lp (fun z => [some (vR 13 0), some (vI a1), some (vI x1), some (vI (z.1))]) (fun z => z.2) (fun z => LM G (d + 0) YX12_laysRests Z 64 [some (vR 13 0), some (vI a1), some (vI x1), none] [] z) rfl rfl ?_ ?_
      · rintro ⟨x4, M5⟩
        show SW G (d + 0) YX12_laysRests Z 22 [some (vR 13 0), some (vI a1), some (vI x1), some (vI x4)] [] M5 (b_X12_laysRests_2c F a1 x1 x4 M5) _
        unfold b_X12_laysRests_2c
        refine s_step (g_iload_n (iRow iCX12_laysRests_0 15 rfl) rfl rfl) ?_
        refine s_step (g_iload_n (iRow iCX12_laysRests_0 16 rfl) rfl rfl) ?_
        refine s_if (g_icmp_ge (tgt := 64) (iRow iCX12_laysRests_0 17 rfl) (by decide)) (fun _ => ?_) (fun _ => ?_)
        · refine s_step (g_keep [true, true, true, false] rfl) ?_
          exact s_end (fun h => h)
        · refine s_step (g_aload_n (iRow iCX12_laysRests_0 18 rfl) rfl rfl) ?_
          refine s_step (g_getR (iRow iCX12_laysRests_0 19 rfl) f12_56 ko_13 (r_13_24 _ _)) ?_
          refine s_step (g_iload_n (iRow iCX12_laysRests_0 20 rfl) rfl rfl) ?_
          refine s_gi (fun h => g_iald (iRow iCX12_laysRests_0 21 rfl) kn_78 ka_78 h) ?_
          refine s_step (g_iload_n (iRow iCX12_laysRests_0 22 rfl) rfl rfl) ?_
          refine s_step (g_iand (iRow iCX12_laysRests_0 23 rfl)) ?_
          refine s_step (g_iload_n (iRow iCX12_laysRests_1 0 rfl) rfl rfl) ?_
          refine s_step (g_ishr (iRow iCX12_laysRests_1 1 rfl)) ?_
          refine s_step (g_iconst (iRow iCX12_laysRests_1 2 rfl) kc_1) ?_
          refine s_step (g_iand (iRow iCX12_laysRests_1 3 rfl)) ?_
          refine s_step (g_iconst (iRow iCX12_laysRests_1 4 rfl) kc_1) ?_
          refine s_bd (fun z => LM G (d + 0) YX12_laysRests Z 58 [some (vR 13 0), some (vI a1), some (vI x1), some (vI x4)] [] z) ?_ ?_
          · refine s_ifn (g_icmp_ne (tgt := 58) (iRow iCX12_laysRests_1 5 rfl) (by decide)) (fun _ => ?_) (fun _ => ?_)
            · refine s_step (g_aload_n (iRow iCX12_laysRests_1 6 rfl) rfl rfl) ?_
              refine s_step (g_getR (iRow iCX12_laysRests_1 7 rfl) f12_141 ko_13 (r_13_56 _ _)) ?_
              refine s_step (g_iload_n (iRow iCX12_laysRests_1 8 rfl) rfl rfl) ?_
              refine s_step (g_dup2 (iRow iCX12_laysRests_1 9 rfl) rfl rfl) ?_
              refine s_gi (fun h => g_iald (iRow iCX12_laysRests_1 10 rfl) kn_106 ka_106 h) ?_
              refine s_step (g_aload_n (iRow iCX12_laysRests_1 11 rfl) rfl rfl) ?_
              refine s_step (g_getR (iRow iCX12_laysRests_1 12 rfl) f12_141 ko_13 (r_13_56 _ _)) ?_
              refine s_step (g_iload_n (iRow iCX12_laysRests_1 13 rfl) rfl rfl) ?_
              refine s_gi (fun h => g_iald (iRow iCX12_laysRests_1 14 rfl) kn_106 ka_106 h) ?_
              refine s_step (g_ior (iRow iCX12_laysRests_1 15 rfl)) ?_
              refine s_gi (fun h => g_iast (iRow iCX12_laysRests_1 16 rfl) kn_106 ka_106 h) ?_
              refine s_nmM (fun M6 => ?_)
              exact s_end (fun h => h)
            · exact s_end (fun h => h)
          · rintro M7
            show SW G (d + 0) YX12_laysRests Z 58 [some (vR 13 0), some (vI a1), some (vI x1), some (vI x4)] [] M7 _ _
            try dsimp only
            refine s_step (g_iincc (c := 1) (ls' := [some (vR 13 0), some (vI a1), some (vI x1), some (vI (x4 + (1 : Int32)))]) (iRow iCX12_laysRests_1 17 rfl) rfl kc_1 (by decide) rfl) ?_
            refine s_step (g_goto (tgt := 22) (iRow iCX12_laysRests_1 18 rfl) (by decide)) ?_
            exact s_end (fun h => h)
      · rintro M8
        show SW G (d + 0) YX12_laysRests Z 64 [some (vR 13 0), some (vI a1), some (vI x1), none] [] M8 _ _
        try dsimp only
        refine s_step (g_iincc (c := 1) (ls' := [some (vR 13 0), some (vI a1), some (vI (x1 + (1 : Int32))), none]) (iRow iCX12_laysRests_1 19 rfl) rfl kc_1 (by decide) rfl) ?_
        refine s_step (g_goto (tgt := 2) (iRow iCX12_laysRests_1 20 rfl) (by decide)) ?_
        exact s_end (fun h => h)
  · rintro M9
    show SW G (d + 0) YX12_laysRests Z 70 [none, none, none, none] [] M9 _ _
    try dsimp only
    exact s_retv (iRow iCX12_laysRests_1 21 rfl) rfl
abbrev YX12_stand : mY := (RX12, "stand", cX12_stand, 7, (some .boolean), none)
set_option maxHeartbeats 400000 in
set_option maxRecDepth 20000 in
theorem t_X12_stand {G : mg} {F : Nat} {a1 : Int32} {M : mm} {x : Bool} {M' : mm} (d : Nat) (h : m_X12_stand F a1 M = some (x, M')) : CM G yX12_stand cX12_stand 7 (some .boolean) (d + 1) [vR 13 0, vI a1] M (some (vI (bI x))) M' := by
  refine ct_z (ls := [some (vR 13 0), some (vI a1), none, none, none, none, none]) rfl rfl (Nat.le_of_ble_eq_true rfl) (fun Z => ?_) h
  show SW G (d + 1) YX12_stand Z 0 [some (vR 13 0), some (vI a1), none, none, none, none, none] [] M _ _
  unfold m_X12_stand
  refine s_step (g_aload_n (iRow iCX12_stand_0 0 rfl) rfl rfl) ?_
  refine s_step (g_iload_n (iRow iCX12_stand_0 1 rfl) rfl rfl) ?_
  refine s_cv (stA := []) (fun _ h => h_V (As := [_]) (iRow iCX12_stand_0 2 rfl) l12_407 iX12_laysRests ko_13 rfl rfl rfl rfl (t_X12_laysRests (d + 0) h) rfl (by omega) (by decide) (Nat.le_of_ble_eq_true rfl)) (fun M1 => ?_)
  refine s_step (g_iload_n (iRow iCX12_stand_0 3 rfl) rfl rfl) ?_
  refine s_step (g_istore_n (ls' := [some (vR 13 0), some (vI a1), some (vI a1), none, none, none, none]) (iRow iCX12_stand_0 4 rfl) rfl (by decide) rfl) ?_
  refine s_lp (fun z => [some (vR 13 0), some (vI a1), some (vI z), none, none, none, none]) (fun _ => M1) (Sum.elim (fun z => LM G (d + 1) YX12_stand Z 81 [none, none, none, none, none, none, none] [] M1) (fun z => LM G (d + 1) YX12_stand Z 92 [none, none, none, none, none, none, none] [] M1)) rfl rfl ?_ ?_
  · rintro x2
    show SW G (d + 1) YX12_stand Z 7 [some (vR 13 0), some (vI a1), some (vI x2), none, none, none, none] [] M1 (b_X12_stand_1c F a1 M1 x2) _
    unfold b_X12_stand_1c
    refine s_step (g_iload_n (iRow iCX12_stand_0 5 rfl) rfl rfl) ?_
    refine s_if (g_if_le (tgt := 92) (iRow iCX12_stand_0 6 rfl) (by decide)) (fun _ => ?_) (fun _ => ?_)
    · refine s_step (g_keep [false, false, false, false, false, false, false] rfl) ?_
      exact s_end (fun h => h)
    · refine s_step (g_iconst (iRow iCX12_stand_0 7 rfl) kc_0) ?_
      refine s_step (g_istore_n (ls' := [some (vR 13 0), some (vI a1), some (vI x2), some (vI (0 : Int32)), none, none, none]) (iRow iCX12_stand_0 8 rfl) rfl (by decide) rfl) ?_
      refine s_step (g_iconst (iRow iCX12_stand_0 9 rfl) kc_0) ?_
      refine s_step (g_istore (ls' := [some (vR 13 0), some (vI a1), some (vI x2), some (vI (0 : Int32)), some (vI (0 : Int32)), none, none]) (iRow iCX12_stand_0 10 rfl) (by decide) rfl) ?_
      refine s_step (g_iconst (iRow iCX12_stand_0 11 rfl) kc_0) ?_
      refine s_step (g_istore (ls' := [some (vR 13 0), some (vI a1), some (vI x2), some (vI (0 : Int32)), some (vI (0 : Int32)), some (vI (0 : Int32)), none]) (iRow iCX12_stand_0 12 rfl) (by decide) rfl) ?_
      refine s_step (g_iload_n (iRow iCX12_stand_0 13 rfl) rfl rfl) ?_
      refine s_step (g_istore (ls' := [some (vR 13 0), some (vI a1), some (vI x2), some (vI (0 : Int32)), some (vI (0 : Int32)), some (vI (0 : Int32)), some (vI x2)]) (iRow iCX12_stand_0 14 rfl) (by decide) rfl) ?_
      refine s_lp (fun z => [some (vR 13 0), some (vI a1), some (vI x2), some (vI (z.1)), some (vI (z.2.1)), some (vI (z.2.2.1)), some (vI (z.2.2.2))]) (fun _ => M1) (fun z => LM G (d + 1) YX12_stand Z 69 [some (vR 13 0), some (vI a1), some (vI x2), none, some (vI (z.1)), some (vI (z.2)), none] [] M1) rfl rfl ?_ ?_
      · rintro ⟨x3, x4, x5, x6⟩
        show SW G (d + 1) YX12_stand Z 22 [some (vR 13 0), some (vI a1), some (vI x2), some (vI x3), some (vI x4), some (vI x5), some (vI x6)] [] M1 (b_X12_stand_2c F M1 x3 x4 x5 x6) _
        unfold b_X12_stand_2c
        refine s_step (g_iload (iRow iCX12_stand_0 15 rfl) rfl) ?_
        refine s_if (g_if_le (tgt := 69) (iRow iCX12_stand_0 16 rfl) (by decide)) (fun _ => ?_) (fun _ => ?_)
        · refine s_step (g_keep [true, true, true, false, true, true, false] rfl) ?_
          exact s_end (fun h => h)
        · refine s_step (g_iload (iRow iCX12_stand_0 17 rfl) rfl) ?_
          refine s_step (g_iconst (iRow iCX12_stand_0 18 rfl) kc_1) ?_
          refine s_step (g_iand (iRow iCX12_stand_0 19 rfl)) ?_
          refine s_step (g_iconst (iRow iCX12_stand_0 20 rfl) kc_1) ?_
          refine s_bd (fun z => LM G (d + 1) YX12_stand Z 57 [some (vR 13 0), some (vI a1), some (vI x2), some (vI x3), some (vI (z.1)), some (vI (z.2)), some (vI x6)] [] M1) ?_ ?_
          · refine s_ifn (g_icmp_ne (tgt := 57) (iRow iCX12_stand_0 21 rfl) (by decide)) (fun _ => ?_) (fun _ => ?_)
            · refine s_step (g_iload (iRow iCX12_stand_0 22 rfl) rfl) ?_
              refine s_step (g_aload_n (iRow iCX12_stand_0 23 rfl) rfl rfl) ?_
              refine s_step (g_getR (iRow iCX12_stand_1 0 rfl) f12_47 ko_13 (r_13_21 _ _)) ?_
              refine s_step (g_iload_n (iRow iCX12_stand_1 1 rfl) rfl rfl) ?_
              refine s_gi (fun h => g_iald (iRow iCX12_stand_1 2 rfl) kn_75 ka_75 h) ?_
              refine s_step (g_iadd (iRow iCX12_stand_1 3 rfl)) ?_
              refine s_nmI (fun x7 => ?_)
              refine s_step (g_istore (ls' := [some (vR 13 0), some (vI a1), some (vI x2), some (vI x3), some (vI x7), some (vI x5), some (vI x6)]) (iRow iCX12_stand_1 4 rfl) (by decide) rfl) ?_
              refine s_step (g_iload (iRow iCX12_stand_1 5 rfl) rfl) ?_
              refine s_step (g_aload_n (iRow iCX12_stand_1 6 rfl) rfl rfl) ?_
              refine s_step (g_getR (iRow iCX12_stand_1 7 rfl) f12_141 ko_13 (r_13_56 _ _)) ?_
              refine s_step (g_iload_n (iRow iCX12_stand_1 8 rfl) rfl rfl) ?_
              refine s_gi (fun h => g_iald (iRow iCX12_stand_1 9 rfl) kn_106 ka_106 h) ?_
              refine s_step (g_ior (iRow iCX12_stand_1 10 rfl)) ?_
              refine s_nmI (fun x8 => ?_)
              refine s_step (g_istore (ls' := [some (vR 13 0), some (vI a1), some (vI x2), some (vI x3), some (vI x7), some (vI x8), some (vI x6)]) (iRow iCX12_stand_1 11 rfl) (by decide) rfl) ?_
              exact s_end (fun h => h)
            · exact s_end (fun h => h)
          · rintro ⟨x9, x10⟩
            show SW G (d + 1) YX12_stand Z 57 [some (vR 13 0), some (vI a1), some (vI x2), some (vI x3), some (vI x9), some (vI x10), some (vI x6)] [] M1 _ _
            try dsimp only
            refine s_step (g_iincc (c := 1) (ls' := [some (vR 13 0), some (vI a1), some (vI x2), some (vI (x3 + (1 : Int32))), some (vI x9), some (vI x10), some (vI x6)]) (iRow iCX12_stand_1 12 rfl) rfl kc_1 (by decide) rfl) ?_
            refine s_step (g_iload (iRow iCX12_stand_1 13 rfl) rfl) ?_
            refine s_step (g_iconst (iRow iCX12_stand_1 14 rfl) kc_1) ?_
            refine s_step (g_ishr (iRow iCX12_stand_1 15 rfl)) ?_
            refine s_nmI (fun x11 => ?_)
            refine s_step (g_istore (ls' := [some (vR 13 0), some (vI a1), some (vI x2), some (vI (x3 + (1 : Int32))), some (vI x9), some (vI x10), some (vI x11)]) (iRow iCX12_stand_1 16 rfl) (by decide) rfl) ?_
            refine s_step (g_goto (tgt := 22) (iRow iCX12_stand_1 17 rfl) (by decide)) ?_
            exact s_end (fun h => h)
      · rintro ⟨x12, x13⟩
        show SW G (d + 1) YX12_stand Z 69 [some (vR 13 0), some (vI a1), some (vI x2), none, some (vI x12), some (vI x13), none] [] M1 _ _
        try dsimp only
        refine s_step (g_iload (iRow iCX12_stand_1 18 rfl) rfl) ?_
        refine s_step (g_aload_n (iRow iCX12_stand_1 19 rfl) rfl rfl) ?_
        refine s_step (g_getR (iRow iCX12_stand_1 20 rfl) f12_138 ko_13 (r_13_55 _ _)) ?_
        refine s_step (g_iload (iRow iCX12_stand_1 21 rfl) rfl) ?_
        refine s_gi (fun h => g_iald (iRow iCX12_stand_1 22 rfl) kn_105 ka_105 h) ?_
        refine s_if (g_icmp_le (tgt := 83) (iRow iCX12_stand_1 23 rfl) (by decide)) (fun _ => ?_) (fun _ => ?_)
        · refine s_step (g_iload_n (iRow iCX12_stand_2 2 rfl) rfl rfl) ?_
          refine s_step (g_iconst (iRow iCX12_stand_2 3 rfl) kc_1) ?_
          refine s_step (g_isub (iRow iCX12_stand_2 4 rfl)) ?_
          refine s_step (g_iload_n (iRow iCX12_stand_2 5 rfl) rfl rfl) ?_
          refine s_step (g_iand (iRow iCX12_stand_2 6 rfl)) ?_
          refine s_nmI (fun x14 => ?_)
          refine s_step (g_istore_n (ls' := [some (vR 13 0), some (vI a1), some (vI x14), none, some (vI x12), some (vI x13), none]) (iRow iCX12_stand_2 7 rfl) rfl (by decide) rfl) ?_
          refine s_step (g_goto (tgt := 7) (iRow iCX12_stand_2 8 rfl) (by decide)) ?_
          refine s_step (g_keep [true, true, true, false, false, false, false] rfl) ?_
          exact s_end (fun h => h)
        · refine s_step (g_keep [false, false, false, false, false, false, false] rfl) ?_
          exact s_end (fun h => h)
  · intro z
    rcases z with z | z
    · obtain ⟨⟩ := z
      show SW G (d + 1) YX12_stand Z 81 [none, none, none, none, none, none, none] [] M1 _ _
      try dsimp only [Sum.elim]
      refine s_step (g_iconst (iRow iCX12_stand_2 0 rfl) kc_0) ?_
      exact s_retz (b := false) (iRow iCX12_stand_2 1 rfl) rfl rfl
    · obtain ⟨⟩ := z
      show SW G (d + 1) YX12_stand Z 92 [none, none, none, none, none, none, none] [] M1 _ _
      try dsimp only [Sum.elim]
      refine s_step (g_iconst (iRow iCX12_stand_2 9 rfl) kc_1) ?_
      exact s_retz (b := true) (iRow iCX12_stand_2 10 rfl) rfl rfl
abbrev YX12_fallen : mY := (RX12, "fallen", cX12_fallen, 5, (some .int), none)
set_option maxHeartbeats 400000 in
set_option maxRecDepth 20000 in
theorem t_X12_fallen {G : mg} {F : Nat} {a1 : Int32} {a2 : Int32} {M : mm} {x : Int32} {M' : mm} (d : Nat) (h : m_X12_fallen F a1 a2 M = some (x, M')) : CM G yX12_fallen cX12_fallen 5 (some .int) (d + 5) [vR 13 0, vI a1, vI a2] M (some (vI x)) M' := by
  refine ct_i (ls := [some (vR 13 0), some (vI a1), some (vI a2), none, none]) rfl rfl (Nat.le_of_ble_eq_true rfl) (fun Z => ?_) h
  show SW G (d + 5) YX12_fallen Z 0 [some (vR 13 0), some (vI a1), some (vI a2), none, none] [] M _ _
  unfold m_X12_fallen
  refine s_step (g_aload_n (iRow iCX12_fallen_0 0 rfl) rfl rfl) ?_
  refine s_step (g_iload_n (iRow iCX12_fallen_0 1 rfl) rfl rfl) ?_
  refine s_cv (stA := []) (fun _ h => h_V (As := [_]) (iRow iCX12_fallen_0 2 rfl) l12_410 iX12_laysStrengths ko_13 rfl rfl rfl rfl (t_X12_laysStrengths (d + 0) h) rfl (by omega) (by decide) (Nat.le_of_ble_eq_true rfl)) (fun M1 => ?_)
  refine s_step (g_iload_n (iRow iCX12_fallen_0 3 rfl) rfl rfl) ?_
  refine s_step (g_istore_n (ls' := [some (vR 13 0), some (vI a1), some (vI a2), some (vI a1), none]) (iRow iCX12_fallen_0 4 rfl) rfl (by decide) rfl) ?_
  refine s_step (g_keep [true, false, false, true, false] rfl) ?_
  refine s_lp (fun z => [some (vR 13 0), none, none, some (vI (z.1)), none]) (fun z => z.2) (fun z => LM G (d + 5) YX12_fallen Z 46 [none, none, none, some (vI (z.1)), none] [] z.2) rfl rfl ?_ ?_
  · rintro ⟨x2, M3⟩
    show SW G (d + 5) YX12_fallen Z 7 [some (vR 13 0), none, none, some (vI x2), none] [] M3 (b_X12_fallen_1c F x2 M3) _
    unfold b_X12_fallen_1c
    refine s_step (g_aload_n (iRow iCX12_fallen_0 5 rfl) rfl rfl) ?_
    refine s_step (g_iload_n (iRow iCX12_fallen_0 6 rfl) rfl rfl) ?_
    refine s_cb (sf := fun b => vI (bI b) :: []) (fun _ _ h => h_V (As := [_]) (iRow iCX12_fallen_0 7 rfl) l12_413 iX12_stand ko_13 rfl rfl rfl rfl (t_X12_stand (d + 3) h) rfl (by omega) (by decide) (Nat.le_of_ble_eq_true rfl)) (fun b5 M4 => ?_)
    refine s_ifneb (g_if_ne (tgt := 46) (iRow iCX12_fallen_0 8 rfl) (by decide)) (fun _ => ?_) (fun _ => ?_)
    · refine s_step (g_keep [false, false, false, true, false] rfl) ?_
      exact s_end (fun h => h)
    · refine s_step (g_bipush (iRow iCX12_fallen_0 9 rfl) kb_10) ?_
      refine s_step (g_istore (ls' := [some (vR 13 0), none, none, some (vI x2), some (vI (10 : Int32))]) (iRow iCX12_fallen_0 10 rfl) (by decide) rfl) ?_
      refine s_lp (fun z => [some (vR 13 0), none, none, some (vI x2), some (vI z)]) (fun _ => M4) (fun z => LM G (d + 5) YX12_fallen Z 34 [some (vR 13 0), none, none, some (vI x2), some (vI z)] [] M4) rfl rfl ?_ ?_
      · rintro x6
        show SW G (d + 5) YX12_fallen Z 19 [some (vR 13 0), none, none, some (vI x2), some (vI x6)] [] M4 (b_X12_fallen_2c F x2 x6) _
        unfold b_X12_fallen_2c
        refine s_step (g_iload_n (iRow iCX12_fallen_0 11 rfl) rfl rfl) ?_
        refine s_step (g_iload (iRow iCX12_fallen_0 12 rfl) rfl) ?_
        refine s_step (g_ishr (iRow iCX12_fallen_0 13 rfl)) ?_
        refine s_step (g_iconst (iRow iCX12_fallen_0 14 rfl) kc_1) ?_
        refine s_step (g_iand (iRow iCX12_fallen_0 15 rfl)) ?_
        refine s_ifn (g_if_ne (tgt := 34) (iRow iCX12_fallen_0 16 rfl) (by decide)) (fun _ => ?_) (fun _ => ?_)
        · refine s_step (g_iincc (c := (-1)) (ls' := [some (vR 13 0), none, none, some (vI x2), some (vI (x6 + (-1 : Int32)))]) (iRow iCX12_fallen_0 17 rfl) rfl kc_m1 (by decide) rfl) ?_
          refine s_step (g_goto (tgt := 19) (iRow iCX12_fallen_0 18 rfl) (by decide)) ?_
          exact s_end (fun h => h)
        · exact s_end (fun h => h)
      · rintro x7
        show SW G (d + 5) YX12_fallen Z 34 [some (vR 13 0), none, none, some (vI x2), some (vI x7)] [] M4 _ _
        try dsimp only
        refine s_step (g_iload_n (iRow iCX12_fallen_0 19 rfl) rfl rfl) ?_
        refine s_step (g_iconst (iRow iCX12_fallen_0 20 rfl) kc_1) ?_
        refine s_step (g_iload (iRow iCX12_fallen_0 21 rfl) rfl) ?_
        refine s_step (g_ishl (iRow iCX12_fallen_0 22 rfl)) ?_
        refine s_step (g_iconst (iRow iCX12_fallen_0 23 rfl) kc_m1) ?_
        refine s_step (g_ixor (iRow iCX12_fallen_1 0 rfl)) ?_
        refine s_step (g_iand (iRow iCX12_fallen_1 1 rfl)) ?_
        refine s_nmI (fun x8 => ?_)
        refine s_step (g_istore_n (ls' := [some (vR 13 0), none, none, some (vI x8), some (vI x7)]) (iRow iCX12_fallen_1 2 rfl) rfl (by decide) rfl) ?_
        refine s_step (g_goto (tgt := 7) (iRow iCX12_fallen_1 3 rfl) (by decide)) ?_
        refine s_step (g_keep [true, false, false, true, false] rfl) ?_
        exact s_end (fun h => h)
  · rintro ⟨x9, M10⟩
    show SW G (d + 5) YX12_fallen Z 46 [none, none, none, some (vI x9), none] [] M10 _ _
    try dsimp only
    refine s_step (g_iload_n (iRow iCX12_fallen_1 4 rfl) rfl rfl) ?_
    exact s_reti (iRow iCX12_fallen_1 5 rfl) rfl
abbrev YX12_falls : mY := (RX12, "falls", cX12_falls, 2, (some .int), none)
set_option maxHeartbeats 400000 in
set_option maxRecDepth 20000 in
theorem t_X12_falls {G : mg} {F : Nat} {M : mm} {x : Int32} {M' : mm} (d : Nat) (h : m_X12_falls F M = some (x, M')) : CM G yX12_falls cX12_falls 2 (some .int) (d + 6) [vR 13 0] M (some (vI x)) M' := by
  refine ct_i (ls := [some (vR 13 0), none]) rfl rfl (Nat.le_of_ble_eq_true rfl) (fun Z => ?_) h
  show SW G (d + 6) YX12_falls Z 0 [some (vR 13 0), none] [] M _ _
  unfold m_X12_falls
  refine s_step (g_aload_n (iRow iCX12_falls_0 0 rfl) rfl rfl) ?_
  refine s_step (g_getR (iRow iCX12_falls_0 1 rfl) f12_123 ko_13 (r_13_49 _ _)) ?_
  refine s_step (g_iconst (iRow iCX12_falls_0 2 rfl) kc_3) ?_
  refine s_gi (fun h => g_iald (iRow iCX12_falls_0 3 rfl) kn_100 ka_100 h) ?_
  refine s_nmI (fun x1 => ?_)
  refine s_step (g_istore_n (ls' := [some (vR 13 0), some (vI x1)]) (iRow iCX12_falls_0 4 rfl) rfl (by decide) rfl) ?_
  refine s_step (g_aload_n (iRow iCX12_falls_0 5 rfl) rfl rfl) ?_
  refine s_step (g_getR (iRow iCX12_falls_0 6 rfl) f12_123 ko_13 (r_13_49 _ _)) ?_
  refine s_step (g_iconst (iRow iCX12_falls_0 7 rfl) kc_3) ?_
  refine s_step (g_aload_n (iRow iCX12_falls_0 8 rfl) rfl rfl) ?_
  refine s_step (g_iload_n (iRow iCX12_falls_0 9 rfl) rfl rfl) ?_
  refine s_step (g_aload_n (iRow iCX12_falls_0 10 rfl) rfl rfl) ?_
  refine s_step (g_getR (iRow iCX12_falls_0 11 rfl) f12_123 ko_13 (r_13_49 _ _)) ?_
  refine s_step (g_iconst (iRow iCX12_falls_0 12 rfl) kc_1) ?_
  refine s_gi (fun h => g_iald (iRow iCX12_falls_0 13 rfl) kn_100 ka_100 h) ?_
  refine s_cl (sf := fun x => vI x :: [vI (3 : Int32), vR 100 0]) (fun _ _ h => h_V (As := [_, _]) (iRow iCX12_falls_0 14 rfl) l12_416 iX12_fallen ko_13 rfl rfl rfl rfl (t_X12_fallen (d + 0) h) rfl (by omega) (by decide) (Nat.le_of_ble_eq_true rfl)) (fun x3 M2 => ?_)
  refine s_gi (fun h => g_iast (iRow iCX12_falls_0 15 rfl) kn_100 ka_100 h) ?_
  refine s_nmM (fun M4 => ?_)
  refine s_step (g_iload_n (iRow iCX12_falls_0 16 rfl) rfl rfl) ?_
  refine s_step (g_aload_n (iRow iCX12_falls_0 17 rfl) rfl rfl) ?_
  refine s_step (g_getR (iRow iCX12_falls_0 18 rfl) f12_123 ko_13 (r_13_49 _ _)) ?_
  refine s_step (g_iconst (iRow iCX12_falls_0 19 rfl) kc_3) ?_
  refine s_gi (fun h => g_iald (iRow iCX12_falls_0 20 rfl) kn_100 ka_100 h) ?_
  refine s_step (g_iconst (iRow iCX12_falls_0 21 rfl) kc_m1) ?_
  refine s_step (g_ixor (iRow iCX12_falls_0 22 rfl)) ?_
  refine s_step (g_iand (iRow iCX12_falls_0 23 rfl)) ?_
  exact s_reti (iRow iCX12_falls_1 0 rfl) rfl
abbrev YX12_fresh : mY := (RX12, "fresh", cX12_fresh, 1, none, none)
set_option maxHeartbeats 400000 in
set_option maxRecDepth 20000 in
theorem t_X12_fresh {G : mg} {F : Nat} {M : mm} {M' : mm} (d : Nat) (h : m_X12_fresh F M = some M') : CM G yX12_fresh cX12_fresh 1 none (d + 7) [vR 13 0] M none M' := by
  refine ct_v (ls := [some (vR 13 0)]) rfl rfl (Nat.le_of_ble_eq_true rfl) (fun Z => ?_) h
  show SW G (d + 7) YX12_fresh Z 0 [some (vR 13 0)] [] M _ _
  unfold m_X12_fresh
  refine s_step (g_aload_n (iRow iCX12_fresh_0 0 rfl) rfl rfl) ?_
  refine s_step (g_getR (iRow iCX12_fresh_0 1 rfl) f12_123 ko_13 (r_13_49 _ _)) ?_
  refine s_step (g_iconst (iRow iCX12_fresh_0 2 rfl) kc_0) ?_
  refine s_step (g_iconst (iRow iCX12_fresh_0 3 rfl) kc_0) ?_
  refine s_gi (fun h => g_iast (iRow iCX12_fresh_0 4 rfl) kn_100 ka_100 h) ?_
  refine s_nmM (fun M1 => ?_)
  refine s_step (g_aload_n (iRow iCX12_fresh_0 5 rfl) rfl rfl) ?_
  refine s_step (g_getR (iRow iCX12_fresh_0 6 rfl) f12_123 ko_13 (r_13_49 _ _)) ?_
  refine s_step (g_iconst (iRow iCX12_fresh_0 7 rfl) kc_1) ?_
  refine s_step (g_iconst (iRow iCX12_fresh_0 8 rfl) kc_0) ?_
  refine s_gi (fun h => g_iast (iRow iCX12_fresh_0 9 rfl) kn_100 ka_100 h) ?_
  refine s_nmM (fun M2 => ?_)
  refine s_step (g_aload_n (iRow iCX12_fresh_0 10 rfl) rfl rfl) ?_
  refine s_step (g_getR (iRow iCX12_fresh_0 11 rfl) f12_123 ko_13 (r_13_49 _ _)) ?_
  refine s_step (g_iconst (iRow iCX12_fresh_0 12 rfl) kc_2) ?_
  refine s_step (g_iconst (iRow iCX12_fresh_0 13 rfl) kc_0) ?_
  refine s_gi (fun h => g_iast (iRow iCX12_fresh_0 14 rfl) kn_100 ka_100 h) ?_
  refine s_nmM (fun M3 => ?_)
  refine s_step (g_aload_n (iRow iCX12_fresh_0 15 rfl) rfl rfl) ?_
  refine s_step (g_getR (iRow iCX12_fresh_0 16 rfl) f12_123 ko_13 (r_13_49 _ _)) ?_
  refine s_step (g_iconst (iRow iCX12_fresh_0 17 rfl) kc_3) ?_
  refine s_step (g_iconst (iRow iCX12_fresh_0 18 rfl) kc_1) ?_
  refine s_step (g_aload_n (iRow iCX12_fresh_0 19 rfl) rfl rfl) ?_
  refine s_step (g_getR (iRow iCX12_fresh_0 20 rfl) f12_13 ko_13 (r_13_10 _ _)) ?_
  refine s_step (g_iconst (iRow iCX12_fresh_0 21 rfl) kc_2) ?_
  refine s_gi (fun h => g_iald (iRow iCX12_fresh_0 22 rfl) kn_64 ka_64 h) ?_
  refine s_step (g_ishl (iRow iCX12_fresh_0 23 rfl)) ?_
  refine s_step (g_iconst (iRow iCX12_fresh_1 0 rfl) kc_1) ?_
  refine s_step (g_isub (iRow iCX12_fresh_1 1 rfl)) ?_
  refine s_gi (fun h => g_iast (iRow iCX12_fresh_1 2 rfl) kn_100 ka_100 h) ?_
  refine s_nmM (fun M4 => ?_)
  refine s_step (g_aload_n (iRow iCX12_fresh_1 3 rfl) rfl rfl) ?_
  refine s_cl (sf := fun x => vI x :: []) (fun _ _ h => h_V (As := []) (iRow iCX12_fresh_1 4 rfl) l12_371 iX12_falls ko_13 rfl rfl rfl rfl (t_X12_falls (d + 0) h) rfl (by omega) (by decide) (Nat.le_of_ble_eq_true rfl)) (fun x6 M5 => ?_)
  refine s_step (g_pop (iRow iCX12_fresh_1 5 rfl) rfl) ?_
  exact s_retv (iRow iCX12_fresh_1 6 rfl) rfl
