abbrev YX12_city : mY := (RX12, "city", cX12_city, 2, (some .int), none)
set_option maxHeartbeats 400000 in
set_option maxRecDepth 20000 in
theorem t_X12_city {G : mg} {F : Nat} {M : mm} {x : Int32} {M' : mm} (d : Nat) (h : m_X12_city F M = some (x, M')) : CM G yX12_city cX12_city 2 (some .int) (d + 8) [vR 13 0] M (some (vI x)) M' := by
  refine ct_i (ls := [some (vR 13 0), none]) rfl rfl (Nat.le_of_ble_eq_true rfl) (fun Z => ?_) h
  show SW G (d + 8) YX12_city Z 0 [some (vR 13 0), none] [] M _ _
  unfold m_X12_city
  refine s_step (g_aload_n (iRow iCX12_city_0 0 rfl) rfl rfl) ?_
  refine s_step (g_iconst (iRow iCX12_city_0 1 rfl) kc_0) ?_
  refine s_step (g_putI (iRow iCX12_city_0 2 rfl) f12_157 (Or.inl rfl) ko_13) ?_
  refine s_nmM (fun M1 => ?_)
  refine s_step (g_aload_n (iRow iCX12_city_0 3 rfl) rfl rfl) ?_
  refine s_cb (sf := fun b => vI (bI b) :: []) (fun _ _ h => h_V (As := []) (iRow iCX12_city_0 4 rfl) l12_374 iX12_readsAll ko_13 rfl rfl rfl rfl (t_X12_readsAll (d + 2) h) rfl (by omega) (by decide) (Nat.le_of_ble_eq_true rfl)) (fun b3 M2 => ?_)
  refine s_ifneb (g_if_ne (tgt := 17) (iRow iCX12_city_0 5 rfl) (by decide)) (fun _ => ?_) (fun _ => ?_)
  · refine s_step (g_aload_n (iRow iCX12_city_0 9 rfl) rfl rfl) ?_
    refine s_cv (stA := []) (fun _ h => h_V (As := []) (iRow iCX12_city_0 10 rfl) l12_377 iX12_lays ko_13 rfl rfl rfl rfl (t_X12_lays (d + 6) h) rfl (by omega) (by decide) (Nat.le_of_ble_eq_true rfl)) (fun M4 => ?_)
    refine s_step (g_aload_n (iRow iCX12_city_0 11 rfl) rfl rfl) ?_
    refine s_cv (stA := []) (fun _ h => h_V (As := []) (iRow iCX12_city_0 12 rfl) l12_380 iX12_fresh ko_13 rfl rfl rfl rfl (t_X12_fresh (d + 0) h) rfl (by omega) (by decide) (Nat.le_of_ble_eq_true rfl)) (fun M5 => ?_)
    refine s_step (g_aload_n (iRow iCX12_city_0 13 rfl) rfl rfl) ?_
    refine s_step (g_getR (iRow iCX12_city_0 14 rfl) f12_105 ko_13 (r_13_43 _ _)) ?_
    refine s_step (g_iconst (iRow iCX12_city_0 15 rfl) kc_0) ?_
    refine s_step (g_iconst (iRow iCX12_city_0 16 rfl) kc_0) ?_
    refine s_gi (fun h => g_iast (iRow iCX12_city_0 17 rfl) kn_94 ka_94 h) ?_
    refine s_nmM (fun M6 => ?_)
    refine s_step (g_aload_n (iRow iCX12_city_0 18 rfl) rfl rfl) ?_
    refine s_step (g_getR (iRow iCX12_city_0 19 rfl) f12_114 ko_13 (r_13_46 _ _)) ?_
    refine s_step (g_iconst (iRow iCX12_city_0 20 rfl) kc_0) ?_
    refine s_step (g_iconst (iRow iCX12_city_0 21 rfl) kc_0) ?_
    refine s_gi (fun h => g_iast (iRow iCX12_city_0 22 rfl) kn_97 ka_97 h) ?_
    refine s_nmM (fun M7 => ?_)
    refine s_step (g_aload_n (iRow iCX12_city_0 23 rfl) rfl rfl) ?_
    refine s_step (g_iconst (iRow iCX12_city_1 0 rfl) kc_0) ?_
    refine s_step (g_putI (iRow iCX12_city_1 1 rfl) f12_383 (Or.inl rfl) ko_13) ?_
    refine s_nmM (fun M8 => ?_)
    refine s_step (g_iconst (iRow iCX12_city_1 2 rfl) kc_0) ?_
    refine s_step (g_istore_n (ls' := [some (vR 13 0), some (vI (0 : Int32))]) (iRow iCX12_city_1 3 rfl) rfl (by decide) rfl) ?_
    refine s_lp (fun z => [some (vR 13 0), some (vI (z.1))]) (fun z => z.2) (fun z => LM G (d + 8) YX12_city Z 64 [none, none] [] z) rfl rfl ?_ ?_
    · rintro ⟨x9, M10⟩
      show SW G (d + 8) YX12_city Z 46 [some (vR 13 0), some (vI x9)] [] M10 (b_X12_city_1c F x9 M10) _
      unfold b_X12_city_1c
      refine s_step (g_iload_n (iRow iCX12_city_1 4 rfl) rfl rfl) ?_
      refine s_step (g_iconst (iRow iCX12_city_1 5 rfl) kc_4) ?_
      refine s_if (g_icmp_ge (tgt := 64) (iRow iCX12_city_1 6 rfl) (by decide)) (fun _ => ?_) (fun _ => ?_)
      · refine s_step (g_keep [false, false] rfl) ?_
        exact s_end (fun h => h)
      · refine s_step (g_aload_n (iRow iCX12_city_1 7 rfl) rfl rfl) ?_
        refine s_step (g_getR (iRow iCX12_city_1 8 rfl) f12_135 ko_13 (r_13_53 _ _)) ?_
        refine s_step (g_iload_n (iRow iCX12_city_1 9 rfl) rfl rfl) ?_
        refine s_step (g_iconst (iRow iCX12_city_1 10 rfl) kc_0) ?_
        refine s_gi (fun h => g_zast (iRow iCX12_city_1 11 rfl) kn_104 ka_104 h) ?_
        refine s_nmM (fun M11 => ?_)
        refine s_step (g_iincc (c := 1) (ls' := [some (vR 13 0), some (vI (x9 + (1 : Int32)))]) (iRow iCX12_city_1 12 rfl) rfl kc_1 (by decide) rfl) ?_
        refine s_step (g_goto (tgt := 46) (iRow iCX12_city_1 13 rfl) (by decide)) ?_
        exact s_end (fun h => h)
    · rintro M12
      show SW G (d + 8) YX12_city Z 64 [none, none] [] M12 _ _
      try dsimp only
      refine s_step (g_iconst (iRow iCX12_city_1 14 rfl) kc_0) ?_
      exact s_reti (iRow iCX12_city_1 15 rfl) rfl
  · refine s_step (g_aload_n (iRow iCX12_city_0 6 rfl) rfl rfl) ?_
    refine s_step (g_getI (iRow iCX12_city_0 7 rfl) f12_193 ko_13) ?_
    exact s_reti (iRow iCX12_city_0 8 rfl) rfl
abbrev YX12_life : mY := (RX12, "life", cX12_life, 1, (some .int), none)
set_option maxHeartbeats 400000 in
set_option maxRecDepth 20000 in
theorem t_X12_life {G : mg} {F : Nat} {M : mm} {x : Int32} {M' : mm} (d : Nat) (h : m_X12_life F M = some (x, M')) : CM G yX12_life cX12_life 1 (some .int) (d + 4) [vR 13 0] M (some (vI x)) M' := by
  refine ct_i (ls := [some (vR 13 0)]) rfl rfl (Nat.le_of_ble_eq_true rfl) (fun Z => ?_) h
  show SW G (d + 4) YX12_life Z 0 [some (vR 13 0)] [] M _ _
  unfold m_X12_life
  refine s_step (g_aload_n (iRow iCX12_life_0 0 rfl) rfl rfl) ?_
  refine s_step (g_iconst (iRow iCX12_life_0 1 rfl) kc_0) ?_
  refine s_step (g_putI (iRow iCX12_life_0 2 rfl) f12_157 (Or.inl rfl) ko_13) ?_
  refine s_nmM (fun M1 => ?_)
  refine s_step (g_aload_n (iRow iCX12_life_0 3 rfl) rfl rfl) ?_
  refine s_step (g_getR (iRow iCX12_life_0 4 rfl) f12_105 ko_13 (r_13_43 _ _)) ?_
  refine s_step (g_iconst (iRow iCX12_life_0 5 rfl) kc_5) ?_
  refine s_step (g_iconst (iRow iCX12_life_0 6 rfl) kc_0) ?_
  refine s_gi (fun h => g_iast (iRow iCX12_life_0 7 rfl) kn_94 ka_94 h) ?_
  refine s_nmM (fun M2 => ?_)
  refine s_step (g_aload_n (iRow iCX12_life_0 8 rfl) rfl rfl) ?_
  refine s_cv (stA := []) (fun _ h => h_V (As := []) (iRow iCX12_life_0 9 rfl) l12_341 iX12_starts ko_13 rfl rfl rfl rfl (t_X12_starts (d + 1) h) rfl (by omega) (by decide) (Nat.le_of_ble_eq_true rfl)) (fun M3 => ?_)
  refine s_lp (fun z => [some (vR 13 0)]) (fun z => z) (Sum.elim (fun z => LM G (d + 4) YX12_life Z 30 [some (vR 13 0)] [] z) (fun z => LM G (d + 4) YX12_life Z 35 [some (vR 13 0)] [] z)) rfl rfl ?_ ?_
  · rintro M4
    show SW G (d + 4) YX12_life Z 16 [some (vR 13 0)] [] M4 (b_X12_life_1c F M4) _
    unfold b_X12_life_1c
    refine s_step (g_aload_n (iRow iCX12_life_0 10 rfl) rfl rfl) ?_
    refine s_step (g_getI (iRow iCX12_life_0 11 rfl) f12_182 ko_13) ?_
    refine s_if (g_if_eq (tgt := 35) (iRow iCX12_life_0 12 rfl) (by decide)) (fun _ => ?_) (fun _ => ?_)
    · exact s_end (fun h => h)
    · refine s_step (g_aload_n (iRow iCX12_life_0 13 rfl) rfl rfl) ?_
      refine s_cb (sf := fun b => vI (bI b) :: []) (fun _ _ h => h_V (As := []) (iRow iCX12_life_0 14 rfl) l12_386 iX12_readsLine ko_13 rfl rfl rfl rfl (t_X12_readsLine (d + 0) h) rfl (by omega) (by decide) (Nat.le_of_ble_eq_true rfl)) (fun b6 M5 => ?_)
      refine s_ifneb (g_if_ne (tgt := 16) (iRow iCX12_life_0 15 rfl) (by decide)) (fun _ => ?_) (fun _ => ?_)
      · exact s_end (fun h => h)
      · exact s_end (fun h => h)
  · intro z
    rcases z with z | z
    · generalize z = M7
      show SW G (d + 4) YX12_life Z 30 [some (vR 13 0)] [] M7 _ _
      try dsimp only [Sum.elim]
      refine s_step (g_aload_n (iRow iCX12_life_0 16 rfl) rfl rfl) ?_
      refine s_step (g_getI (iRow iCX12_life_0 17 rfl) f12_193 ko_13) ?_
      exact s_reti (iRow iCX12_life_0 18 rfl) rfl
    · generalize z = M8
      show SW G (d + 4) YX12_life Z 35 [some (vR 13 0)] [] M8 _ _
      try dsimp only [Sum.elim]
      refine s_step (g_aload_n (iRow iCX12_life_0 19 rfl) rfl rfl) ?_
      refine s_step (g_iconst (iRow iCX12_life_0 20 rfl) kc_5) ?_
      refine s_step (g_iconst (iRow iCX12_life_0 21 rfl) kc_0) ?_
      refine s_cv (stA := []) (fun _ h => h_V (As := [_, _]) (iRow iCX12_life_0 22 rfl) l12_389 iX12_laysLines ko_13 rfl rfl rfl rfl (t_X12_laysLines (d + 3) h) rfl (by omega) (by decide) (Nat.le_of_ble_eq_true rfl)) (fun M9 => ?_)
      refine s_step (g_iconst (iRow iCX12_life_0 23 rfl) kc_0) ?_
      exact s_reti (iRow iCX12_life_1 0 rfl) rfl
abbrev YX12_isPerson : mY := (RX12, "isPerson", cX12_isPerson, 2, (some .boolean), none)
set_option maxHeartbeats 400000 in
set_option maxRecDepth 20000 in
theorem t_X12_isPerson {G : mg} {F : Nat} {a1 : Int32} {M : mm} {x : Bool} {M' : mm} (d : Nat) (h : m_X12_isPerson F a1 M = some (x, M')) : CM G yX12_isPerson cX12_isPerson 2 (some .boolean) (d + 0) [vR 13 0, vI a1] M (some (vI (bI x))) M' := by
  refine ct_z (ls := [some (vR 13 0), some (vI a1)]) rfl rfl (Nat.le_of_ble_eq_true rfl) (fun Z => ?_) h
  show SW G (d + 0) YX12_isPerson Z 0 [some (vR 13 0), some (vI a1)] [] M _ _
  unfold m_X12_isPerson
  refine s_step (g_iload_n (iRow iCX12_isPerson_0 0 rfl) rfl rfl) ?_
  refine s_if (g_if_lt (tgt := 18) (iRow iCX12_isPerson_0 1 rfl) (by decide)) (fun _ => ?_) (fun _ => ?_)
  · refine s_step (g_iconst (iRow iCX12_isPerson_0 10 rfl) kc_0) ?_
    exact s_retz (b := false) (iRow iCX12_isPerson_0 11 rfl) rfl rfl
  · refine s_step (g_iload_n (iRow iCX12_isPerson_0 2 rfl) rfl rfl) ?_
    refine s_step (g_aload_n (iRow iCX12_isPerson_0 3 rfl) rfl rfl) ?_
    refine s_step (g_getR (iRow iCX12_isPerson_0 4 rfl) f12_13 ko_13 (r_13_10 _ _)) ?_
    refine s_step (g_iconst (iRow iCX12_isPerson_0 5 rfl) kc_0) ?_
    refine s_gi (fun h => g_iald (iRow iCX12_isPerson_0 6 rfl) kn_64 ka_64 h) ?_
    refine s_if (g_icmp_ge (tgt := 18) (iRow iCX12_isPerson_0 7 rfl) (by decide)) (fun _ => ?_) (fun _ => ?_)
    · refine s_step (g_iconst (iRow iCX12_isPerson_0 10 rfl) kc_0) ?_
      exact s_retz (b := false) (iRow iCX12_isPerson_0 11 rfl) rfl rfl
    · refine s_step (g_iconst (iRow iCX12_isPerson_0 8 rfl) kc_1) ?_
      refine s_step (g_goto (tgt := 19) (iRow iCX12_isPerson_0 9 rfl) (by decide)) ?_
      exact s_retz (b := true) (iRow iCX12_isPerson_0 11 rfl) rfl rfl
abbrev YX12_isOath : mY := (RX12, "isOath", cX12_isOath, 2, (some .boolean), none)
set_option maxHeartbeats 400000 in
set_option maxRecDepth 20000 in
theorem t_X12_isOath {G : mg} {F : Nat} {a1 : Int32} {M : mm} {x : Bool} {M' : mm} (d : Nat) (h : m_X12_isOath F a1 M = some (x, M')) : CM G yX12_isOath cX12_isOath 2 (some .boolean) (d + 0) [vR 13 0, vI a1] M (some (vI (bI x))) M' := by
  refine ct_z (ls := [some (vR 13 0), some (vI a1)]) rfl rfl (Nat.le_of_ble_eq_true rfl) (fun Z => ?_) h
  show SW G (d + 0) YX12_isOath Z 0 [some (vR 13 0), some (vI a1)] [] M _ _
  unfold m_X12_isOath
  refine s_step (g_iload_n (iRow iCX12_isOath_0 0 rfl) rfl rfl) ?_
  refine s_if (g_if_lt (tgt := 18) (iRow iCX12_isOath_0 1 rfl) (by decide)) (fun _ => ?_) (fun _ => ?_)
  · refine s_step (g_iconst (iRow iCX12_isOath_0 10 rfl) kc_0) ?_
    exact s_retz (b := false) (iRow iCX12_isOath_0 11 rfl) rfl rfl
  · refine s_step (g_iload_n (iRow iCX12_isOath_0 2 rfl) rfl rfl) ?_
    refine s_step (g_aload_n (iRow iCX12_isOath_0 3 rfl) rfl rfl) ?_
    refine s_step (g_getR (iRow iCX12_isOath_0 4 rfl) f12_13 ko_13 (r_13_10 _ _)) ?_
    refine s_step (g_iconst (iRow iCX12_isOath_0 5 rfl) kc_1) ?_
    refine s_gi (fun h => g_iald (iRow iCX12_isOath_0 6 rfl) kn_64 ka_64 h) ?_
    refine s_if (g_icmp_ge (tgt := 18) (iRow iCX12_isOath_0 7 rfl) (by decide)) (fun _ => ?_) (fun _ => ?_)
    · refine s_step (g_iconst (iRow iCX12_isOath_0 10 rfl) kc_0) ?_
      exact s_retz (b := false) (iRow iCX12_isOath_0 11 rfl) rfl rfl
    · refine s_step (g_iconst (iRow iCX12_isOath_0 8 rfl) kc_1) ?_
      refine s_step (g_goto (tgt := 19) (iRow iCX12_isOath_0 9 rfl) (by decide)) ?_
      exact s_retz (b := true) (iRow iCX12_isOath_0 11 rfl) rfl rfl
abbrev YX12_isStone : mY := (RX12, "isStone", cX12_isStone, 2, (some .boolean), none)
set_option maxHeartbeats 400000 in
set_option maxRecDepth 20000 in
theorem t_X12_isStone {G : mg} {F : Nat} {a1 : Int32} {M : mm} {x : Bool} {M' : mm} (d : Nat) (h : m_X12_isStone F a1 M = some (x, M')) : CM G yX12_isStone cX12_isStone 2 (some .boolean) (d + 0) [vR 13 0, vI a1] M (some (vI (bI x))) M' := by
  refine ct_z (ls := [some (vR 13 0), some (vI a1)]) rfl rfl (Nat.le_of_ble_eq_true rfl) (fun Z => ?_) h
  show SW G (d + 0) YX12_isStone Z 0 [some (vR 13 0), some (vI a1)] [] M _ _
  unfold m_X12_isStone
  refine s_step (g_iload_n (iRow iCX12_isStone_0 0 rfl) rfl rfl) ?_
  refine s_if (g_if_lt (tgt := 18) (iRow iCX12_isStone_0 1 rfl) (by decide)) (fun _ => ?_) (fun _ => ?_)
  · refine s_step (g_iconst (iRow iCX12_isStone_0 10 rfl) kc_0) ?_
    exact s_retz (b := false) (iRow iCX12_isStone_0 11 rfl) rfl rfl
  · refine s_step (g_iload_n (iRow iCX12_isStone_0 2 rfl) rfl rfl) ?_
    refine s_step (g_aload_n (iRow iCX12_isStone_0 3 rfl) rfl rfl) ?_
    refine s_step (g_getR (iRow iCX12_isStone_0 4 rfl) f12_13 ko_13 (r_13_10 _ _)) ?_
    refine s_step (g_iconst (iRow iCX12_isStone_0 5 rfl) kc_2) ?_
    refine s_gi (fun h => g_iald (iRow iCX12_isStone_0 6 rfl) kn_64 ka_64 h) ?_
    refine s_if (g_icmp_ge (tgt := 18) (iRow iCX12_isStone_0 7 rfl) (by decide)) (fun _ => ?_) (fun _ => ?_)
    · refine s_step (g_iconst (iRow iCX12_isStone_0 10 rfl) kc_0) ?_
      exact s_retz (b := false) (iRow iCX12_isStone_0 11 rfl) rfl rfl
    · refine s_step (g_iconst (iRow iCX12_isStone_0 8 rfl) kc_1) ?_
      refine s_step (g_goto (tgt := 19) (iRow iCX12_isStone_0 9 rfl) (by decide)) ?_
      exact s_retz (b := true) (iRow iCX12_isStone_0 11 rfl) rfl rfl
abbrev YX12_person : mY := (RX12, "person", cX12_person, 3, (some .int), none)
set_option maxHeartbeats 400000 in
set_option maxRecDepth 20000 in
theorem t_X12_person {G : mg} {F : Nat} {a1 : Int32} {a2 : Int32} {M : mm} {x : Int32} {M' : mm} (d : Nat) (h : m_X12_person F a1 a2 M = some (x, M')) : CM G yX12_person cX12_person 3 (some .int) (d + 1) [vR 13 0, vI a1, vI a2] M (some (vI x)) M' := by
  refine ct_i (ls := [some (vR 13 0), some (vI a1), some (vI a2)]) rfl rfl (Nat.le_of_ble_eq_true rfl) (fun Z => ?_) h
  show SW G (d + 1) YX12_person Z 0 [some (vR 13 0), some (vI a1), some (vI a2)] [] M _ _
  unfold m_X12_person
  refine s_step (g_aload_n (iRow iCX12_person_0 0 rfl) rfl rfl) ?_
  refine s_step (g_iconst (iRow iCX12_person_0 1 rfl) kc_0) ?_
  refine s_step (g_putI (iRow iCX12_person_0 2 rfl) f12_157 (Or.inl rfl) ko_13) ?_
  refine s_nmM (fun M1 => ?_)
  refine s_step (g_aload_n (iRow iCX12_person_0 3 rfl) rfl rfl) ?_
  refine s_step (g_iload_n (iRow iCX12_person_0 4 rfl) rfl rfl) ?_
  refine s_cb (sf := fun b => vI (bI b) :: []) (fun _ _ h => h_V (As := [_]) (iRow iCX12_person_0 5 rfl) l12_419 iX12_isPerson ko_13 rfl rfl rfl rfl (t_X12_isPerson (d + 0) h) rfl (by omega) (by decide) (Nat.le_of_ble_eq_true rfl)) (fun b3 M2 => ?_)
  refine s_ifeqb (g_if_eq (tgt := 22) (iRow iCX12_person_0 6 rfl) (by decide)) (fun _ => ?_) (fun _ => ?_)
  · refine s_step (g_iload_n (iRow iCX12_person_0 7 rfl) rfl rfl) ?_
    refine s_step (g_iconst (iRow iCX12_person_0 8 rfl) kc_0) ?_
    refine s_step (g_iconst (iRow iCX12_person_0 9 rfl) kc_3) ?_
    refine s_cb (sf := fun b => vI (bI b) :: []) (fun _ _ h => h_S (As := [_, _, _]) (iRow iCX12_person_0 10 rfl) l12_291 iX12_within rfl rfl (t_X12_within (d + 0) h) rfl (by omega) (by decide) (Nat.le_of_ble_eq_true rfl)) (fun b5 M4 => ?_)
    refine s_ifneb (g_if_ne (tgt := 24) (iRow iCX12_person_0 11 rfl) (by decide)) (fun _ => ?_) (fun _ => ?_)
    · refine s_step (g_iload_n (iRow iCX12_person_0 14 rfl) rfl rfl) ?_
      refine s_step (g_iconst (iRow iCX12_person_0 15 rfl) kc_2) ?_
      refine s_if (g_icmp_ge (tgt := 49) (iRow iCX12_person_0 16 rfl) (by decide)) (fun _ => ?_) (fun _ => ?_)
      · refine s_step (g_iload_n (iRow iCX12_person_1 5 rfl) rfl rfl) ?_
        refine s_step (g_iconst (iRow iCX12_person_1 6 rfl) kc_2) ?_
        refine s_ifn (g_icmp_ne (tgt := 62) (iRow iCX12_person_1 7 rfl) (by decide)) (fun _ => ?_) (fun _ => ?_)
        · refine s_step (g_aload_n (iRow iCX12_person_1 8 rfl) rfl rfl) ?_
          refine s_step (g_iload_n (iRow iCX12_person_1 9 rfl) rfl rfl) ?_
          refine s_cl (sf := fun x => vI x :: []) (fun _ _ h => h_V (As := [_]) (iRow iCX12_person_1 10 rfl) l12_393 iX12_oathsOf ko_13 rfl rfl rfl rfl (t_X12_oathsOf (d + 0) h) rfl (by omega) (by decide) (Nat.le_of_ble_eq_true rfl)) (fun x9 M8 => ?_)
          refine s_step (g_goto (tgt := 76) (iRow iCX12_person_1 11 rfl) (by decide)) ?_
          exact s_reti (iRow iCX12_person_1 22 rfl) rfl
        · refine s_step (g_aload_n (iRow iCX12_person_1 12 rfl) rfl rfl) ?_
          refine s_step (g_iload_n (iRow iCX12_person_1 13 rfl) rfl rfl) ?_
          refine s_cl (sf := fun x => vI x :: []) (fun _ _ h => h_V (As := [_]) (iRow iCX12_person_1 14 rfl) l12_393 iX12_oathsOf ko_13 rfl rfl rfl rfl (t_X12_oathsOf (d + 0) h) rfl (by omega) (by decide) (Nat.le_of_ble_eq_true rfl)) (fun x7 M6 => ?_)
          refine s_step (g_aload_n (iRow iCX12_person_1 15 rfl) rfl rfl) ?_
          refine s_step (g_getR (iRow iCX12_person_1 16 rfl) f12_123 ko_13 (r_13_49 _ _)) ?_
          refine s_step (g_iconst (iRow iCX12_person_1 17 rfl) kc_1) ?_
          refine s_gi (fun h => g_iald (iRow iCX12_person_1 18 rfl) kn_100 ka_100 h) ?_
          refine s_step (g_iconst (iRow iCX12_person_1 19 rfl) kc_m1) ?_
          refine s_step (g_ixor (iRow iCX12_person_1 20 rfl)) ?_
          refine s_step (g_iand (iRow iCX12_person_1 21 rfl)) ?_
          exact s_reti (iRow iCX12_person_1 22 rfl) rfl
      · refine s_step (g_iload_n (iRow iCX12_person_0 17 rfl) rfl rfl) ?_
        refine s_ifn (g_if_ne (tgt := 42) (iRow iCX12_person_0 18 rfl) (by decide)) (fun _ => ?_) (fun _ => ?_)
        · refine s_step (g_aload_n (iRow iCX12_person_0 19 rfl) rfl rfl) ?_
          refine s_step (g_getR (iRow iCX12_person_0 20 rfl) f12_26 ko_13 (r_13_14 _ _)) ?_
          refine s_step (g_iload_n (iRow iCX12_person_0 21 rfl) rfl rfl) ?_
          refine s_gi (fun h => g_iald (iRow iCX12_person_0 22 rfl) kn_68 ka_68 h) ?_
          refine s_step (g_goto (tgt := 48) (iRow iCX12_person_0 23 rfl) (by decide)) ?_
          exact s_reti (iRow iCX12_person_1 4 rfl) rfl
        · refine s_step (g_aload_n (iRow iCX12_person_1 0 rfl) rfl rfl) ?_
          refine s_step (g_getR (iRow iCX12_person_1 1 rfl) f12_29 ko_13 (r_13_15 _ _)) ?_
          refine s_step (g_iload_n (iRow iCX12_person_1 2 rfl) rfl rfl) ?_
          refine s_gi (fun h => g_iald (iRow iCX12_person_1 3 rfl) kn_69 ka_69 h) ?_
          exact s_reti (iRow iCX12_person_1 4 rfl) rfl
    · refine s_step (g_iconst (iRow iCX12_person_0 12 rfl) kc_m1) ?_
      exact s_reti (iRow iCX12_person_0 13 rfl) rfl
  · refine s_step (g_iconst (iRow iCX12_person_0 12 rfl) kc_m1) ?_
    exact s_reti (iRow iCX12_person_0 13 rfl) rfl
abbrev YX12_oath : mY := (RX12, "oath", cX12_oath, 3, (some .int), none)
set_option maxHeartbeats 400000 in
set_option maxRecDepth 20000 in
theorem t_X12_oath {G : mg} {F : Nat} {a1 : Int32} {a2 : Int32} {M : mm} {x : Int32} {M' : mm} (d : Nat) (h : m_X12_oath F a1 a2 M = some (x, M')) : CM G yX12_oath cX12_oath 3 (some .int) (d + 4) [vR 13 0, vI a1, vI a2] M (some (vI x)) M' := by
  refine ct_i (ls := [some (vR 13 0), some (vI a1), some (vI a2)]) rfl rfl (Nat.le_of_ble_eq_true rfl) (fun Z => ?_) h
  show SW G (d + 4) YX12_oath Z 0 [some (vR 13 0), some (vI a1), some (vI a2)] [] M _ _
  unfold m_X12_oath
  refine s_step (g_aload_n (iRow iCX12_oath_0 0 rfl) rfl rfl) ?_
  refine s_step (g_iconst (iRow iCX12_oath_0 1 rfl) kc_0) ?_
  refine s_step (g_putI (iRow iCX12_oath_0 2 rfl) f12_157 (Or.inl rfl) ko_13) ?_
  refine s_nmM (fun M1 => ?_)
  refine s_step (g_aload_n (iRow iCX12_oath_0 3 rfl) rfl rfl) ?_
  refine s_step (g_iload_n (iRow iCX12_oath_0 4 rfl) rfl rfl) ?_
  refine s_cb (sf := fun b => vI (bI b) :: []) (fun _ _ h => h_V (As := [_]) (iRow iCX12_oath_0 5 rfl) l12_422 iX12_isOath ko_13 rfl rfl rfl rfl (t_X12_isOath (d + 3) h) rfl (by omega) (by decide) (Nat.le_of_ble_eq_true rfl)) (fun b3 M2 => ?_)
  refine s_ifeqb (g_if_eq (tgt := 23) (iRow iCX12_oath_0 6 rfl) (by decide)) (fun _ => ?_) (fun _ => ?_)
  · refine s_step (g_iload_n (iRow iCX12_oath_0 7 rfl) rfl rfl) ?_
    refine s_step (g_iconst (iRow iCX12_oath_0 8 rfl) kc_0) ?_
    refine s_step (g_bipush (iRow iCX12_oath_0 9 rfl) kb_7) ?_
    refine s_cb (sf := fun b => vI (bI b) :: []) (fun _ _ h => h_S (As := [_, _, _]) (iRow iCX12_oath_0 10 rfl) l12_291 iX12_within rfl rfl (t_X12_within (d + 3) h) rfl (by omega) (by decide) (Nat.le_of_ble_eq_true rfl)) (fun b5 M4 => ?_)
    refine s_ifneb (g_if_ne (tgt := 25) (iRow iCX12_oath_0 11 rfl) (by decide)) (fun _ => ?_) (fun _ => ?_)
    · refine s_step (g_iload_n (iRow iCX12_oath_0 14 rfl) rfl rfl) ?_
      refine s_step (g_iconst (iRow iCX12_oath_0 15 rfl) kc_3) ?_
      refine s_if (g_icmp_ge (tgt := 64) (iRow iCX12_oath_0 16 rfl) (by decide)) (fun _ => ?_) (fun _ => ?_)
      · refine s_step (g_iload_n (iRow iCX12_oath_1 13 rfl) rfl rfl) ?_
        refine s_step (g_bipush (iRow iCX12_oath_1 14 rfl) kb_6) ?_
        refine s_if (g_icmp_ge (tgt := 102) (iRow iCX12_oath_1 15 rfl) (by decide)) (fun _ => ?_) (fun _ => ?_)
        · refine s_step (g_iload_n (iRow iCX12_oath_2 14 rfl) rfl rfl) ?_
          refine s_step (g_bipush (iRow iCX12_oath_2 15 rfl) kb_6) ?_
          refine s_ifn (g_icmp_ne (tgt := 117) (iRow iCX12_oath_2 16 rfl) (by decide)) (fun _ => ?_) (fun _ => ?_)
          · refine s_step (g_aload_n (iRow iCX12_oath_2 17 rfl) rfl rfl) ?_
            refine s_step (g_getR (iRow iCX12_oath_2 18 rfl) f12_41 ko_13 (r_13_19 _ _)) ?_
            refine s_step (g_iload_n (iRow iCX12_oath_2 19 rfl) rfl rfl) ?_
            refine s_gi (fun h => g_iald (iRow iCX12_oath_2 20 rfl) kn_73 ka_73 h) ?_
            refine s_step (g_goto (tgt := 123) (iRow iCX12_oath_2 21 rfl) (by decide)) ?_
            exact s_reti (iRow iCX12_oath_3 2 rfl) rfl
          · refine s_step (g_aload_n (iRow iCX12_oath_2 22 rfl) rfl rfl) ?_
            refine s_step (g_getR (iRow iCX12_oath_2 23 rfl) f12_44 ko_13 (r_13_20 _ _)) ?_
            refine s_step (g_iload_n (iRow iCX12_oath_3 0 rfl) rfl rfl) ?_
            refine s_gi (fun h => g_iald (iRow iCX12_oath_3 1 rfl) kn_74 ka_74 h) ?_
            exact s_reti (iRow iCX12_oath_3 2 rfl) rfl
        · refine s_step (g_iload_n (iRow iCX12_oath_1 16 rfl) rfl rfl) ?_
          refine s_step (g_iconst (iRow iCX12_oath_1 17 rfl) kc_3) ?_
          refine s_ifn (g_icmp_ne (tgt := 89) (iRow iCX12_oath_1 18 rfl) (by decide)) (fun _ => ?_) (fun _ => ?_)
          · refine s_step (g_aload_n (iRow iCX12_oath_1 19 rfl) rfl rfl) ?_
            refine s_step (g_iload_n (iRow iCX12_oath_1 20 rfl) rfl rfl) ?_
            refine s_step (g_aload_n (iRow iCX12_oath_1 21 rfl) rfl rfl) ?_
            refine s_step (g_getR (iRow iCX12_oath_1 22 rfl) f12_123 ko_13 (r_13_49 _ _)) ?_
            refine s_step (g_iconst (iRow iCX12_oath_1 23 rfl) kc_1) ?_
            refine s_gi (fun h => g_iald (iRow iCX12_oath_2 0 rfl) kn_100 ka_100 h) ?_
            refine s_cl (sf := fun x => vI x :: []) (fun _ _ h => h_V (As := [_, _]) (iRow iCX12_oath_2 1 rfl) l12_403 iX12_strengthOf ko_13 rfl rfl rfl rfl (t_X12_strengthOf (d + 0) h) rfl (by omega) (by decide) (Nat.le_of_ble_eq_true rfl)) (fun x7 M6 => ?_)
            refine s_step (g_goto (tgt := 101) (iRow iCX12_oath_2 2 rfl) (by decide)) ?_
            exact s_reti (iRow iCX12_oath_2 13 rfl) rfl
          · refine s_step (g_aload_n (iRow iCX12_oath_2 3 rfl) rfl rfl) ?_
            refine s_step (g_getR (iRow iCX12_oath_2 4 rfl) f12_123 ko_13 (r_13_49 _ _)) ?_
            refine s_step (g_iload_n (iRow iCX12_oath_2 5 rfl) rfl rfl) ?_
            refine s_step (g_iconst (iRow iCX12_oath_2 6 rfl) kc_3) ?_
            refine s_step (g_isub (iRow iCX12_oath_2 7 rfl)) ?_
            refine s_gi (fun h => g_iald (iRow iCX12_oath_2 8 rfl) kn_100 ka_100 h) ?_
            refine s_step (g_iload_n (iRow iCX12_oath_2 9 rfl) rfl rfl) ?_
            refine s_step (g_ishr (iRow iCX12_oath_2 10 rfl)) ?_
            refine s_step (g_iconst (iRow iCX12_oath_2 11 rfl) kc_1) ?_
            refine s_step (g_iand (iRow iCX12_oath_2 12 rfl)) ?_
            exact s_reti (iRow iCX12_oath_2 13 rfl) rfl
      · refine s_step (g_iload_n (iRow iCX12_oath_0 17 rfl) rfl rfl) ?_
        refine s_ifn (g_if_ne (tgt := 43) (iRow iCX12_oath_0 18 rfl) (by decide)) (fun _ => ?_) (fun _ => ?_)
        · refine s_step (g_aload_n (iRow iCX12_oath_0 19 rfl) rfl rfl) ?_
          refine s_step (g_getR (iRow iCX12_oath_0 20 rfl) f12_32 ko_13 (r_13_16 _ _)) ?_
          refine s_step (g_iload_n (iRow iCX12_oath_0 21 rfl) rfl rfl) ?_
          refine s_gi (fun h => g_iald (iRow iCX12_oath_0 22 rfl) kn_70 ka_70 h) ?_
          refine s_step (g_goto (tgt := 63) (iRow iCX12_oath_0 23 rfl) (by decide)) ?_
          exact s_reti (iRow iCX12_oath_1 12 rfl) rfl
        · refine s_step (g_iload_n (iRow iCX12_oath_1 0 rfl) rfl rfl) ?_
          refine s_step (g_iconst (iRow iCX12_oath_1 1 rfl) kc_1) ?_
          refine s_ifn (g_icmp_ne (tgt := 57) (iRow iCX12_oath_1 2 rfl) (by decide)) (fun _ => ?_) (fun _ => ?_)
          · refine s_step (g_aload_n (iRow iCX12_oath_1 3 rfl) rfl rfl) ?_
            refine s_step (g_getR (iRow iCX12_oath_1 4 rfl) f12_35 ko_13 (r_13_17 _ _)) ?_
            refine s_step (g_iload_n (iRow iCX12_oath_1 5 rfl) rfl rfl) ?_
            refine s_gi (fun h => g_iald (iRow iCX12_oath_1 6 rfl) kn_71 ka_71 h) ?_
            refine s_step (g_goto (tgt := 63) (iRow iCX12_oath_1 7 rfl) (by decide)) ?_
            exact s_reti (iRow iCX12_oath_1 12 rfl) rfl
          · refine s_step (g_aload_n (iRow iCX12_oath_1 8 rfl) rfl rfl) ?_
            refine s_step (g_getR (iRow iCX12_oath_1 9 rfl) f12_38 ko_13 (r_13_18 _ _)) ?_
            refine s_step (g_iload_n (iRow iCX12_oath_1 10 rfl) rfl rfl) ?_
            refine s_gi (fun h => g_iald (iRow iCX12_oath_1 11 rfl) kn_72 ka_72 h) ?_
            exact s_reti (iRow iCX12_oath_1 12 rfl) rfl
    · refine s_step (g_iconst (iRow iCX12_oath_0 12 rfl) kc_m1) ?_
      exact s_reti (iRow iCX12_oath_0 13 rfl) rfl
  · refine s_step (g_iconst (iRow iCX12_oath_0 12 rfl) kc_m1) ?_
    exact s_reti (iRow iCX12_oath_0 13 rfl) rfl
abbrev YX12_stone : mY := (RX12, "stone", cX12_stone, 3, (some .int), none)
set_option maxHeartbeats 400000 in
set_option maxRecDepth 20000 in
theorem t_X12_stone {G : mg} {F : Nat} {a1 : Int32} {a2 : Int32} {M : mm} {x : Int32} {M' : mm} (d : Nat) (h : m_X12_stone F a1 a2 M = some (x, M')) : CM G yX12_stone cX12_stone 3 (some .int) (d + 1) [vR 13 0, vI a1, vI a2] M (some (vI x)) M' := by
  refine ct_i (ls := [some (vR 13 0), some (vI a1), some (vI a2)]) rfl rfl (Nat.le_of_ble_eq_true rfl) (fun Z => ?_) h
  show SW G (d + 1) YX12_stone Z 0 [some (vR 13 0), some (vI a1), some (vI a2)] [] M _ _
  unfold m_X12_stone
  refine s_step (g_aload_n (iRow iCX12_stone_0 0 rfl) rfl rfl) ?_
  refine s_step (g_iconst (iRow iCX12_stone_0 1 rfl) kc_0) ?_
  refine s_step (g_putI (iRow iCX12_stone_0 2 rfl) f12_157 (Or.inl rfl) ko_13) ?_
  refine s_nmM (fun M1 => ?_)
  refine s_step (g_aload_n (iRow iCX12_stone_0 3 rfl) rfl rfl) ?_
  refine s_step (g_iload_n (iRow iCX12_stone_0 4 rfl) rfl rfl) ?_
  refine s_cb (sf := fun b => vI (bI b) :: []) (fun _ _ h => h_V (As := [_]) (iRow iCX12_stone_0 5 rfl) l12_425 iX12_isStone ko_13 rfl rfl rfl rfl (t_X12_isStone (d + 0) h) rfl (by omega) (by decide) (Nat.le_of_ble_eq_true rfl)) (fun b3 M2 => ?_)
  refine s_ifeqb (g_if_eq (tgt := 22) (iRow iCX12_stone_0 6 rfl) (by decide)) (fun _ => ?_) (fun _ => ?_)
  · refine s_step (g_iload_n (iRow iCX12_stone_0 7 rfl) rfl rfl) ?_
    refine s_step (g_iconst (iRow iCX12_stone_0 8 rfl) kc_0) ?_
    refine s_step (g_iconst (iRow iCX12_stone_0 9 rfl) kc_4) ?_
    refine s_cb (sf := fun b => vI (bI b) :: []) (fun _ _ h => h_S (As := [_, _, _]) (iRow iCX12_stone_0 10 rfl) l12_291 iX12_within rfl rfl (t_X12_within (d + 0) h) rfl (by omega) (by decide) (Nat.le_of_ble_eq_true rfl)) (fun b5 M4 => ?_)
    refine s_ifneb (g_if_ne (tgt := 24) (iRow iCX12_stone_0 11 rfl) (by decide)) (fun _ => ?_) (fun _ => ?_)
    · refine s_step (g_iload_n (iRow iCX12_stone_0 14 rfl) rfl rfl) ?_
      refine s_step (g_iconst (iRow iCX12_stone_0 15 rfl) kc_3) ?_
      refine s_if (g_icmp_ge (tgt := 67) (iRow iCX12_stone_0 16 rfl) (by decide)) (fun _ => ?_) (fun _ => ?_)
      · refine s_step (g_iload_n (iRow iCX12_stone_1 17 rfl) rfl rfl) ?_
        refine s_step (g_iconst (iRow iCX12_stone_1 18 rfl) kc_4) ?_
        refine s_ifn (g_icmp_ne (tgt := 79) (iRow iCX12_stone_1 19 rfl) (by decide)) (fun _ => ?_) (fun _ => ?_)
        · refine s_step (g_aload_n (iRow iCX12_stone_1 20 rfl) rfl rfl) ?_
          refine s_step (g_getR (iRow iCX12_stone_1 21 rfl) f12_56 ko_13 (r_13_24 _ _)) ?_
          refine s_step (g_iload_n (iRow iCX12_stone_1 22 rfl) rfl rfl) ?_
          refine s_gi (fun h => g_iald (iRow iCX12_stone_1 23 rfl) kn_78 ka_78 h) ?_
          exact s_reti (iRow iCX12_stone_2 0 rfl) rfl
        · refine s_step (g_aload_n (iRow iCX12_stone_2 1 rfl) rfl rfl) ?_
          refine s_step (g_aload_n (iRow iCX12_stone_2 2 rfl) rfl rfl) ?_
          refine s_step (g_getR (iRow iCX12_stone_2 3 rfl) f12_123 ko_13 (r_13_49 _ _)) ?_
          refine s_step (g_iconst (iRow iCX12_stone_2 4 rfl) kc_3) ?_
          refine s_gi (fun h => g_iald (iRow iCX12_stone_2 5 rfl) kn_100 ka_100 h) ?_
          refine s_cv (stA := []) (fun _ h => h_V (As := [_]) (iRow iCX12_stone_2 6 rfl) l12_407 iX12_laysRests ko_13 rfl rfl rfl rfl (t_X12_laysRests (d + 0) h) rfl (by omega) (by decide) (Nat.le_of_ble_eq_true rfl)) (fun M6 => ?_)
          refine s_step (g_aload_n (iRow iCX12_stone_2 7 rfl) rfl rfl) ?_
          refine s_step (g_getR (iRow iCX12_stone_2 8 rfl) f12_141 ko_13 (r_13_56 _ _)) ?_
          refine s_step (g_iload_n (iRow iCX12_stone_2 9 rfl) rfl rfl) ?_
          refine s_gi (fun h => g_iald (iRow iCX12_stone_2 10 rfl) kn_106 ka_106 h) ?_
          exact s_reti (iRow iCX12_stone_2 11 rfl) rfl
      · refine s_step (g_iload_n (iRow iCX12_stone_0 17 rfl) rfl rfl) ?_
        refine s_ifn (g_if_ne (tgt := 42) (iRow iCX12_stone_0 18 rfl) (by decide)) (fun _ => ?_) (fun _ => ?_)
        · refine s_step (g_aload_n (iRow iCX12_stone_0 19 rfl) rfl rfl) ?_
          refine s_step (g_getR (iRow iCX12_stone_0 20 rfl) f12_47 ko_13 (r_13_21 _ _)) ?_
          refine s_step (g_iload_n (iRow iCX12_stone_0 21 rfl) rfl rfl) ?_
          refine s_gi (fun h => g_iald (iRow iCX12_stone_0 22 rfl) kn_75 ka_75 h) ?_
          refine s_step (g_goto (tgt := 66) (iRow iCX12_stone_0 23 rfl) (by decide)) ?_
          exact s_reti (iRow iCX12_stone_1 16 rfl) rfl
        · refine s_step (g_iload_n (iRow iCX12_stone_1 0 rfl) rfl rfl) ?_
          refine s_step (g_iconst (iRow iCX12_stone_1 1 rfl) kc_1) ?_
          refine s_ifn (g_icmp_ne (tgt := 56) (iRow iCX12_stone_1 2 rfl) (by decide)) (fun _ => ?_) (fun _ => ?_)
          · refine s_step (g_aload_n (iRow iCX12_stone_1 3 rfl) rfl rfl) ?_
            refine s_step (g_getR (iRow iCX12_stone_1 4 rfl) f12_50 ko_13 (r_13_22 _ _)) ?_
            refine s_step (g_iload_n (iRow iCX12_stone_1 5 rfl) rfl rfl) ?_
            refine s_gi (fun h => g_iald (iRow iCX12_stone_1 6 rfl) kn_76 ka_76 h) ?_
            refine s_step (g_goto (tgt := 66) (iRow iCX12_stone_1 7 rfl) (by decide)) ?_
            exact s_reti (iRow iCX12_stone_1 16 rfl) rfl
          · refine s_step (g_aload_n (iRow iCX12_stone_1 8 rfl) rfl rfl) ?_
            refine s_step (g_getR (iRow iCX12_stone_1 9 rfl) f12_123 ko_13 (r_13_49 _ _)) ?_
            refine s_step (g_iconst (iRow iCX12_stone_1 10 rfl) kc_3) ?_
            refine s_gi (fun h => g_iald (iRow iCX12_stone_1 11 rfl) kn_100 ka_100 h) ?_
            refine s_step (g_iload_n (iRow iCX12_stone_1 12 rfl) rfl rfl) ?_
            refine s_step (g_ishr (iRow iCX12_stone_1 13 rfl)) ?_
            refine s_step (g_iconst (iRow iCX12_stone_1 14 rfl) kc_1) ?_
            refine s_step (g_iand (iRow iCX12_stone_1 15 rfl)) ?_
            exact s_reti (iRow iCX12_stone_1 16 rfl) rfl
    · refine s_step (g_iconst (iRow iCX12_stone_0 12 rfl) kc_m1) ?_
      exact s_reti (iRow iCX12_stone_0 13 rfl) rfl
  · refine s_step (g_iconst (iRow iCX12_stone_0 12 rfl) kc_m1) ?_
    exact s_reti (iRow iCX12_stone_0 13 rfl) rfl
abbrev YX12_copies_100_103 : mY := (RX12, "copies", cX12_copies, 5, none, none)
set_option maxHeartbeats 400000 in
set_option maxRecDepth 20000 in
theorem t_X12_copies_100_103 {G : mg} {F : Nat} {a2 : Int32} {a4 : Int32} {M : mm} {M' : mm} (d : Nat) (h : m_X12_copies_100_103 F a2 a4 M = some M') : CM G yX12_copies cX12_copies 5 none (d + 0) [vR 100 0, vI a2, vR 103 0, vI a4] M none M' := by
  refine ct_v (ls := [some (vR 100 0), some (vI a2), some (vR 103 0), some (vI a4), none]) rfl rfl (Nat.le_of_ble_eq_true rfl) (fun Z => ?_) h
  show SW G (d + 0) YX12_copies_100_103 Z 0 [some (vR 100 0), some (vI a2), some (vR 103 0), some (vI a4), none] [] M _ _
  unfold m_X12_copies_100_103
  refine s_step (g_iconst (iRow iCX12_copies_0 0 rfl) kc_0) ?_
  refine s_step (g_istore (ls' := [some (vR 100 0), some (vI a2), some (vR 103 0), some (vI a4), some (vI (0 : Int32))]) (iRow iCX12_copies_0 1 rfl) (by decide) rfl) ?_
  refine s_lp (fun z => [some (vR 100 0), some (vI a2), some (vR 103 0), some (vI a4), some (vI (z.1))]) (fun z => z.2) (fun z => LM G (d + 0) YX12_copies_100_103 Z 27 [none, none, none, none, none] [] z) rfl rfl ?_ ?_
  · rintro ⟨x1, M2⟩
    show SW G (d + 0) YX12_copies_100_103 Z 3 [some (vR 100 0), some (vI a2), some (vR 103 0), some (vI a4), some (vI x1)] [] M2 (b_X12_copies_100_103_1c F a2 a4 x1 M2) _
    unfold b_X12_copies_100_103_1c
    refine s_step (g_iload (iRow iCX12_copies_0 2 rfl) rfl) ?_
    refine s_step (g_iconst (iRow iCX12_copies_0 3 rfl) kc_4) ?_
    refine s_if (g_icmp_ge (tgt := 27) (iRow iCX12_copies_0 4 rfl) (by decide)) (fun _ => ?_) (fun _ => ?_)
    · refine s_step (g_keep [false, false, false, false, false] rfl) ?_
      exact s_end (fun h => h)
    · refine s_step (g_aload_n (iRow iCX12_copies_0 5 rfl) rfl rfl) ?_
      refine s_step (g_iload_n (iRow iCX12_copies_0 6 rfl) rfl rfl) ?_
      refine s_step (g_iload (iRow iCX12_copies_0 7 rfl) rfl) ?_
      refine s_step (g_iadd (iRow iCX12_copies_0 8 rfl)) ?_
      refine s_step (g_aload_n (iRow iCX12_copies_0 9 rfl) rfl rfl) ?_
      refine s_step (g_iload_n (iRow iCX12_copies_0 10 rfl) rfl rfl) ?_
      refine s_step (g_iload (iRow iCX12_copies_0 11 rfl) rfl) ?_
      refine s_step (g_iadd (iRow iCX12_copies_0 12 rfl)) ?_
      refine s_gi (fun h => g_iald (iRow iCX12_copies_0 13 rfl) kn_100 ka_100 h) ?_
      refine s_gi (fun h => g_iast (iRow iCX12_copies_0 14 rfl) kn_103 ka_103 h) ?_
      refine s_nmM (fun M3 => ?_)
      refine s_step (g_iincc (c := 1) (ls' := [some (vR 100 0), some (vI a2), some (vR 103 0), some (vI a4), some (vI (x1 + (1 : Int32)))]) (iRow iCX12_copies_0 15 rfl) rfl kc_1 (by decide) rfl) ?_
      refine s_step (g_goto (tgt := 3) (iRow iCX12_copies_0 16 rfl) (by decide)) ?_
      exact s_end (fun h => h)
  · rintro M4
    show SW G (d + 0) YX12_copies_100_103 Z 27 [none, none, none, none, none] [] M4 _ _
    try dsimp only
    exact s_retv (iRow iCX12_copies_0 17 rfl) rfl
abbrev YX12_keeps : mY := (RX12, "keeps", cX12_keeps, 2, none, none)
set_option maxHeartbeats 400000 in
set_option maxRecDepth 20000 in
theorem t_X12_keeps {G : mg} {F : Nat} {M : mm} {M' : mm} (d : Nat) (h : m_X12_keeps F M = some M') : CM G yX12_keeps cX12_keeps 2 none (d + 1) [vR 13 0] M none M' := by
  refine ct_v (ls := [some (vR 13 0), none]) rfl rfl (Nat.le_of_ble_eq_true rfl) (fun Z => ?_) h
  show SW G (d + 1) YX12_keeps Z 0 [some (vR 13 0), none] [] M _ _
  unfold m_X12_keeps
  refine s_step (g_aload_n (iRow iCX12_keeps_0 0 rfl) rfl rfl) ?_
  refine s_step (g_getI (iRow iCX12_keeps_0 1 rfl) f12_383 ko_13) ?_
  refine s_step (g_bipush (iRow iCX12_keeps_0 2 rfl) kb_16) ?_
  refine s_bd (fun z => LM G (d + 1) YX12_keeps Z 47 [some (vR 13 0), none] [] z) ?_ ?_
  · refine s_ifn (g_icmp_ne (tgt := 47) (iRow iCX12_keeps_0 3 rfl) (by decide)) (fun _ => ?_) (fun _ => ?_)
    · refine s_step (g_iconst (iRow iCX12_keeps_0 4 rfl) kc_0) ?_
      refine s_step (g_istore_n (ls' := [some (vR 13 0), some (vI (0 : Int32))]) (iRow iCX12_keeps_0 5 rfl) rfl (by decide) rfl) ?_
      refine s_lp (fun z => [some (vR 13 0), some (vI (z.1))]) (fun z => z.2) (fun z => LM G (d + 1) YX12_keeps Z 37 [some (vR 13 0), none] [] z) rfl rfl ?_ ?_
      · rintro ⟨x1, M2⟩
        show SW G (d + 1) YX12_keeps Z 11 [some (vR 13 0), some (vI x1)] [] M2 (b_X12_keeps_1c F x1 M2) _
        unfold b_X12_keeps_1c
        refine s_step (g_iload_n (iRow iCX12_keeps_0 6 rfl) rfl rfl) ?_
        refine s_step (g_bipush (iRow iCX12_keeps_0 7 rfl) kb_60) ?_
        refine s_if (g_icmp_ge (tgt := 37) (iRow iCX12_keeps_0 8 rfl) (by decide)) (fun _ => ?_) (fun _ => ?_)
        · refine s_step (g_keep [true, false] rfl) ?_
          exact s_end (fun h => h)
        · refine s_step (g_aload_n (iRow iCX12_keeps_0 9 rfl) rfl rfl) ?_
          refine s_step (g_getR (iRow iCX12_keeps_0 10 rfl) f12_132 ko_13 (r_13_52 _ _)) ?_
          refine s_step (g_iload_n (iRow iCX12_keeps_0 11 rfl) rfl rfl) ?_
          refine s_step (g_aload_n (iRow iCX12_keeps_0 12 rfl) rfl rfl) ?_
          refine s_step (g_getR (iRow iCX12_keeps_0 13 rfl) f12_132 ko_13 (r_13_52 _ _)) ?_
          refine s_step (g_iload_n (iRow iCX12_keeps_0 14 rfl) rfl rfl) ?_
          refine s_step (g_iconst (iRow iCX12_keeps_0 15 rfl) kc_4) ?_
          refine s_step (g_iadd (iRow iCX12_keeps_0 16 rfl)) ?_
          refine s_gi (fun h => g_iald (iRow iCX12_keeps_0 17 rfl) kn_103 ka_103 h) ?_
          refine s_gi (fun h => g_iast (iRow iCX12_keeps_0 18 rfl) kn_103 ka_103 h) ?_
          refine s_nmM (fun M3 => ?_)
          refine s_step (g_iincc (c := 1) (ls' := [some (vR 13 0), some (vI (x1 + (1 : Int32)))]) (iRow iCX12_keeps_0 19 rfl) rfl kc_1 (by decide) rfl) ?_
          refine s_step (g_goto (tgt := 11) (iRow iCX12_keeps_0 20 rfl) (by decide)) ?_
          exact s_end (fun h => h)
      · rintro M4
        show SW G (d + 1) YX12_keeps Z 37 [some (vR 13 0), none] [] M4 _ _
        try dsimp only
        refine s_step (g_aload_n (iRow iCX12_keeps_0 21 rfl) rfl rfl) ?_
        refine s_step (g_dup (iRow iCX12_keeps_0 22 rfl) rfl) ?_
        refine s_step (g_getI (iRow iCX12_keeps_0 23 rfl) f12_383 ko_13) ?_
        refine s_step (g_iconst (iRow iCX12_keeps_1 0 rfl) kc_1) ?_
        refine s_step (g_isub (iRow iCX12_keeps_1 1 rfl)) ?_
        refine s_step (g_putI (iRow iCX12_keeps_1 2 rfl) f12_383 (Or.inl rfl) ko_13) ?_
        refine s_nmM (fun M5 => ?_)
        exact s_end (fun h => h)
    · exact s_end (fun h => h)
  · rintro M6
    show SW G (d + 1) YX12_keeps Z 47 [some (vR 13 0), none] [] M6 _ _
    try dsimp only
    refine s_step (g_aload_n (iRow iCX12_keeps_1 3 rfl) rfl rfl) ?_
    refine s_step (g_getR (iRow iCX12_keeps_1 4 rfl) f12_123 ko_13 (r_13_49 _ _)) ?_
    refine s_step (g_iconst (iRow iCX12_keeps_1 5 rfl) kc_0) ?_
    refine s_step (g_aload_n (iRow iCX12_keeps_1 6 rfl) rfl rfl) ?_
    refine s_step (g_getR (iRow iCX12_keeps_1 7 rfl) f12_132 ko_13 (r_13_52 _ _)) ?_
    refine s_step (g_iconst (iRow iCX12_keeps_1 8 rfl) kc_4) ?_
    refine s_step (g_aload_n (iRow iCX12_keeps_1 9 rfl) rfl rfl) ?_
    refine s_step (g_getI (iRow iCX12_keeps_1 10 rfl) f12_383 ko_13) ?_
    refine s_step (g_imul (iRow iCX12_keeps_1 11 rfl)) ?_
    refine s_cv (stA := []) (fun _ h => h_S (As := [_, _, _, _]) (iRow iCX12_keeps_1 12 rfl) l12_428 iX12_copies rfl rfl (t_X12_copies_100_103 (d + 0) h) rfl (by omega) (by decide) (Nat.le_of_ble_eq_true rfl)) (fun M7 => ?_)
    refine s_step (g_aload_n (iRow iCX12_keeps_1 13 rfl) rfl rfl) ?_
    refine s_step (g_dup (iRow iCX12_keeps_1 14 rfl) rfl) ?_
    refine s_step (g_getI (iRow iCX12_keeps_1 15 rfl) f12_383 ko_13) ?_
    refine s_step (g_iconst (iRow iCX12_keeps_1 16 rfl) kc_1) ?_
    refine s_step (g_iadd (iRow iCX12_keeps_1 17 rfl)) ?_
    refine s_step (g_putI (iRow iCX12_keeps_1 18 rfl) f12_383 (Or.inl rfl) ko_13) ?_
    refine s_nmM (fun M8 => ?_)
    exact s_retv (iRow iCX12_keeps_1 19 rfl) rfl
abbrev YX12_canBreak : mY := (RX12, "canBreak", cX12_canBreak, 2, (some .boolean), none)
set_option maxHeartbeats 400000 in
set_option maxRecDepth 20000 in
theorem t_X12_canBreak {G : mg} {F : Nat} {a1 : Int32} {M : mm} {x : Bool} {M' : mm} (d : Nat) (h : m_X12_canBreak F a1 M = some (x, M')) : CM G yX12_canBreak cX12_canBreak 2 (some .boolean) (d + 0) [vR 13 0, vI a1] M (some (vI (bI x))) M' := by
  refine ct_z (ls := [some (vR 13 0), some (vI a1)]) rfl rfl (Nat.le_of_ble_eq_true rfl) (fun Z => ?_) h
  show SW G (d + 0) YX12_canBreak Z 0 [some (vR 13 0), some (vI a1)] [] M _ _
  unfold m_X12_canBreak
  refine s_step (g_aload_n (iRow iCX12_canBreak_0 0 rfl) rfl rfl) ?_
  refine s_step (g_getR (iRow iCX12_canBreak_0 1 rfl) f12_32 ko_13 (r_13_16 _ _)) ?_
  refine s_step (g_iload_n (iRow iCX12_canBreak_0 2 rfl) rfl rfl) ?_
  refine s_gi (fun h => g_iald (iRow iCX12_canBreak_0 3 rfl) kn_70 ka_70 h) ?_
  refine s_step (g_iconst (iRow iCX12_canBreak_0 4 rfl) kc_2) ?_
  refine s_if (g_icmp_eq (tgt := 27) (iRow iCX12_canBreak_0 5 rfl) (by decide)) (fun _ => ?_) (fun _ => ?_)
  · refine s_step (g_iconst (iRow iCX12_canBreak_0 17 rfl) kc_0) ?_
    exact s_retz (b := false) (iRow iCX12_canBreak_0 18 rfl) rfl rfl
  · refine s_step (g_aload_n (iRow iCX12_canBreak_0 6 rfl) rfl rfl) ?_
    refine s_step (g_getR (iRow iCX12_canBreak_0 7 rfl) f12_123 ko_13 (r_13_49 _ _)) ?_
    refine s_step (g_iconst (iRow iCX12_canBreak_0 8 rfl) kc_1) ?_
    refine s_gi (fun h => g_iald (iRow iCX12_canBreak_0 9 rfl) kn_100 ka_100 h) ?_
    refine s_step (g_iload_n (iRow iCX12_canBreak_0 10 rfl) rfl rfl) ?_
    refine s_step (g_ishr (iRow iCX12_canBreak_0 11 rfl)) ?_
    refine s_step (g_iconst (iRow iCX12_canBreak_0 12 rfl) kc_1) ?_
    refine s_step (g_iand (iRow iCX12_canBreak_0 13 rfl)) ?_
    refine s_ifn (g_if_ne (tgt := 27) (iRow iCX12_canBreak_0 14 rfl) (by decide)) (fun _ => ?_) (fun _ => ?_)
    · refine s_step (g_iconst (iRow iCX12_canBreak_0 15 rfl) kc_1) ?_
      refine s_step (g_goto (tgt := 28) (iRow iCX12_canBreak_0 16 rfl) (by decide)) ?_
      exact s_retz (b := true) (iRow iCX12_canBreak_0 18 rfl) rfl rfl
    · refine s_step (g_iconst (iRow iCX12_canBreak_0 17 rfl) kc_0) ?_
      exact s_retz (b := false) (iRow iCX12_canBreak_0 18 rfl) rfl rfl
abbrev YX12_canRaise : mY := (RX12, "canRaise", cX12_canRaise, 2, (some .boolean), none)
set_option maxHeartbeats 400000 in
set_option maxRecDepth 20000 in
theorem t_X12_canRaise {G : mg} {F : Nat} {a1 : Int32} {M : mm} {x : Bool} {M' : mm} (d : Nat) (h : m_X12_canRaise F a1 M = some (x, M')) : CM G yX12_canRaise cX12_canRaise 2 (some .boolean) (d + 5) [vR 13 0, vI a1] M (some (vI (bI x))) M' := by
  refine ct_z (ls := [some (vR 13 0), some (vI a1)]) rfl rfl (Nat.le_of_ble_eq_true rfl) (fun Z => ?_) h
  show SW G (d + 5) YX12_canRaise Z 0 [some (vR 13 0), some (vI a1)] [] M _ _
  unfold m_X12_canRaise
  refine s_step (g_aload_n (iRow iCX12_canRaise_0 0 rfl) rfl rfl) ?_
  refine s_step (g_getR (iRow iCX12_canRaise_0 1 rfl) f12_123 ko_13 (r_13_49 _ _)) ?_
  refine s_step (g_iconst (iRow iCX12_canRaise_0 2 rfl) kc_3) ?_
  refine s_gi (fun h => g_iald (iRow iCX12_canRaise_0 3 rfl) kn_100 ka_100 h) ?_
  refine s_step (g_iload_n (iRow iCX12_canRaise_0 4 rfl) rfl rfl) ?_
  refine s_step (g_ishr (iRow iCX12_canRaise_0 5 rfl)) ?_
  refine s_step (g_iconst (iRow iCX12_canRaise_0 6 rfl) kc_1) ?_
  refine s_step (g_iand (iRow iCX12_canRaise_0 7 rfl)) ?_
  refine s_step (g_iconst (iRow iCX12_canRaise_0 8 rfl) kc_1) ?_
  refine s_ifn (g_icmp_ne (tgt := 16) (iRow iCX12_canRaise_0 9 rfl) (by decide)) (fun _ => ?_) (fun _ => ?_)
  · refine s_step (g_iconst (iRow iCX12_canRaise_0 10 rfl) kc_0) ?_
    exact s_retz (b := false) (iRow iCX12_canRaise_0 11 rfl) rfl rfl
  · refine s_step (g_aload_n (iRow iCX12_canRaise_0 12 rfl) rfl rfl) ?_
    refine s_step (g_aload_n (iRow iCX12_canRaise_0 13 rfl) rfl rfl) ?_
    refine s_step (g_getR (iRow iCX12_canRaise_0 14 rfl) f12_123 ko_13 (r_13_49 _ _)) ?_
    refine s_step (g_iconst (iRow iCX12_canRaise_0 15 rfl) kc_1) ?_
    refine s_gi (fun h => g_iald (iRow iCX12_canRaise_0 16 rfl) kn_100 ka_100 h) ?_
    refine s_cv (stA := []) (fun _ h => h_V (As := [_]) (iRow iCX12_canRaise_0 17 rfl) l12_410 iX12_laysStrengths ko_13 rfl rfl rfl rfl (t_X12_laysStrengths (d + 0) h) rfl (by omega) (by decide) (Nat.le_of_ble_eq_true rfl)) (fun M1 => ?_)
    refine s_step (g_aload_n (iRow iCX12_canRaise_0 18 rfl) rfl rfl) ?_
    refine s_step (g_aload_n (iRow iCX12_canRaise_0 19 rfl) rfl rfl) ?_
    refine s_step (g_getR (iRow iCX12_canRaise_0 20 rfl) f12_123 ko_13 (r_13_49 _ _)) ?_
    refine s_step (g_iconst (iRow iCX12_canRaise_0 21 rfl) kc_3) ?_
    refine s_gi (fun h => g_iald (iRow iCX12_canRaise_0 22 rfl) kn_100 ka_100 h) ?_
    refine s_step (g_iconst (iRow iCX12_canRaise_0 23 rfl) kc_1) ?_
    refine s_step (g_iload_n (iRow iCX12_canRaise_1 0 rfl) rfl rfl) ?_
    refine s_step (g_ishl (iRow iCX12_canRaise_1 1 rfl)) ?_
    refine s_step (g_ior (iRow iCX12_canRaise_1 2 rfl)) ?_
    refine s_cb (sf := fun b => vI (bI b) :: []) (fun _ _ h => h_V (As := [_]) (iRow iCX12_canRaise_1 3 rfl) l12_413 iX12_stand ko_13 rfl rfl rfl rfl (t_X12_stand (d + 3) h) rfl (by omega) (by decide) (Nat.le_of_ble_eq_true rfl)) (fun b3 M2 => ?_)
    exact s_retz (iRow iCX12_canRaise_1 4 rfl) rfl rfl
abbrev YX12_forgives : mY := (RX12, "forgives", cX12_forgives, 2, none, none)
set_option maxHeartbeats 400000 in
set_option maxRecDepth 20000 in
theorem t_X12_forgives {G : mg} {F : Nat} {a1 : Int32} {M : mm} {M' : mm} (d : Nat) (h : m_X12_forgives F a1 M = some M') : CM G yX12_forgives cX12_forgives 2 none (d + 0) [vR 13 0, vI a1] M none M' := by
  refine ct_v (ls := [some (vR 13 0), some (vI a1)]) rfl rfl (Nat.le_of_ble_eq_true rfl) (fun Z => ?_) h
  show SW G (d + 0) YX12_forgives Z 0 [some (vR 13 0), some (vI a1)] [] M _ _
  unfold m_X12_forgives
  refine s_step (g_aload_n (iRow iCX12_forgives_0 0 rfl) rfl rfl) ?_
  refine s_step (g_getR (iRow iCX12_forgives_0 1 rfl) f12_123 ko_13 (r_13_49 _ _)) ?_
  refine s_step (g_iconst (iRow iCX12_forgives_0 2 rfl) kc_1) ?_
  refine s_step (g_dup2 (iRow iCX12_forgives_0 3 rfl) rfl rfl) ?_
  refine s_gi (fun h => g_iald (iRow iCX12_forgives_0 4 rfl) kn_100 ka_100 h) ?_
  refine s_step (g_iconst (iRow iCX12_forgives_0 5 rfl) kc_1) ?_
  refine s_step (g_iload_n (iRow iCX12_forgives_0 6 rfl) rfl rfl) ?_
  refine s_step (g_ishl (iRow iCX12_forgives_0 7 rfl)) ?_
  refine s_step (g_iconst (iRow iCX12_forgives_0 8 rfl) kc_m1) ?_
  refine s_step (g_ixor (iRow iCX12_forgives_0 9 rfl)) ?_
  refine s_step (g_iand (iRow iCX12_forgives_0 10 rfl)) ?_
  refine s_gi (fun h => g_iast (iRow iCX12_forgives_0 11 rfl) kn_100 ka_100 h) ?_
  refine s_nmM (fun M1 => ?_)
  refine s_step (g_aload_n (iRow iCX12_forgives_0 12 rfl) rfl rfl) ?_
  refine s_step (g_getR (iRow iCX12_forgives_0 13 rfl) f12_123 ko_13 (r_13_49 _ _)) ?_
  refine s_step (g_iconst (iRow iCX12_forgives_0 14 rfl) kc_2) ?_
  refine s_step (g_dup2 (iRow iCX12_forgives_0 15 rfl) rfl rfl) ?_
  refine s_gi (fun h => g_iald (iRow iCX12_forgives_0 16 rfl) kn_100 ka_100 h) ?_
  refine s_step (g_iconst (iRow iCX12_forgives_0 17 rfl) kc_1) ?_
  refine s_step (g_iload_n (iRow iCX12_forgives_0 18 rfl) rfl rfl) ?_
  refine s_step (g_ishl (iRow iCX12_forgives_0 19 rfl)) ?_
  refine s_step (g_ior (iRow iCX12_forgives_0 20 rfl)) ?_
  refine s_gi (fun h => g_iast (iRow iCX12_forgives_0 21 rfl) kn_100 ka_100 h) ?_
  refine s_nmM (fun M2 => ?_)
  exact s_retv (iRow iCX12_forgives_0 22 rfl) rfl
abbrev YX12_breaks : mY := (RX12, "breaks", cX12_breaks, 2, (some .int), none)
set_option maxHeartbeats 400000 in
set_option maxRecDepth 20000 in
theorem t_X12_breaks {G : mg} {F : Nat} {a1 : Int32} {M : mm} {x : Int32} {M' : mm} (d : Nat) (h : m_X12_breaks F a1 M = some (x, M')) : CM G yX12_breaks cX12_breaks 2 (some .int) (d + 7) [vR 13 0, vI a1] M (some (vI x)) M' := by
  refine ct_i (ls := [some (vR 13 0), some (vI a1)]) rfl rfl (Nat.le_of_ble_eq_true rfl) (fun Z => ?_) h
  show SW G (d + 7) YX12_breaks Z 0 [some (vR 13 0), some (vI a1)] [] M _ _
  unfold m_X12_breaks
  refine s_step (g_aload_n (iRow iCX12_breaks_0 0 rfl) rfl rfl) ?_
  refine s_step (g_iconst (iRow iCX12_breaks_0 1 rfl) kc_0) ?_
  refine s_step (g_putI (iRow iCX12_breaks_0 2 rfl) f12_157 (Or.inl rfl) ko_13) ?_
  refine s_nmM (fun M1 => ?_)
  refine s_step (g_aload_n (iRow iCX12_breaks_0 3 rfl) rfl rfl) ?_
  refine s_step (g_iload_n (iRow iCX12_breaks_0 4 rfl) rfl rfl) ?_
  refine s_cb (sf := fun b => vI (bI b) :: []) (fun _ _ h => h_V (As := [_]) (iRow iCX12_breaks_0 5 rfl) l12_422 iX12_isOath ko_13 rfl rfl rfl rfl (t_X12_isOath (d + 6) h) rfl (by omega) (by decide) (Nat.le_of_ble_eq_true rfl)) (fun b3 M2 => ?_)
  refine s_ifeqb (g_if_eq (tgt := 21) (iRow iCX12_breaks_0 6 rfl) (by decide)) (fun _ => ?_) (fun _ => ?_)
  · refine s_step (g_aload_n (iRow iCX12_breaks_0 7 rfl) rfl rfl) ?_
    refine s_step (g_iload_n (iRow iCX12_breaks_0 8 rfl) rfl rfl) ?_
    refine s_cb (sf := fun b => vI (bI b) :: []) (fun _ _ h => h_V (As := [_]) (iRow iCX12_breaks_0 9 rfl) l12_432 iX12_canBreak ko_13 rfl rfl rfl rfl (t_X12_canBreak (d + 6) h) rfl (by omega) (by decide) (Nat.le_of_ble_eq_true rfl)) (fun b5 M4 => ?_)
    refine s_ifneb (g_if_ne (tgt := 23) (iRow iCX12_breaks_0 10 rfl) (by decide)) (fun _ => ?_) (fun _ => ?_)
    · refine s_step (g_aload_n (iRow iCX12_breaks_0 13 rfl) rfl rfl) ?_
      refine s_cv (stA := []) (fun _ h => h_V (As := []) (iRow iCX12_breaks_0 14 rfl) l12_435 iX12_keeps ko_13 rfl rfl rfl rfl (t_X12_keeps (d + 5) h) rfl (by omega) (by decide) (Nat.le_of_ble_eq_true rfl)) (fun M6 => ?_)
      refine s_step (g_aload_n (iRow iCX12_breaks_0 15 rfl) rfl rfl) ?_
      refine s_step (g_getR (iRow iCX12_breaks_0 16 rfl) f12_123 ko_13 (r_13_49 _ _)) ?_
      refine s_step (g_iconst (iRow iCX12_breaks_0 17 rfl) kc_1) ?_
      refine s_step (g_dup2 (iRow iCX12_breaks_0 18 rfl) rfl rfl) ?_
      refine s_gi (fun h => g_iald (iRow iCX12_breaks_0 19 rfl) kn_100 ka_100 h) ?_
      refine s_step (g_iconst (iRow iCX12_breaks_0 20 rfl) kc_1) ?_
      refine s_step (g_iload_n (iRow iCX12_breaks_0 21 rfl) rfl rfl) ?_
      refine s_step (g_ishl (iRow iCX12_breaks_0 22 rfl)) ?_
      refine s_step (g_ior (iRow iCX12_breaks_0 23 rfl)) ?_
      refine s_gi (fun h => g_iast (iRow iCX12_breaks_1 0 rfl) kn_100 ka_100 h) ?_
      refine s_nmM (fun M7 => ?_)
      refine s_step (g_aload_n (iRow iCX12_breaks_1 1 rfl) rfl rfl) ?_
      refine s_cl (sf := fun x => vI x :: []) (fun _ _ h => h_V (As := []) (iRow iCX12_breaks_1 2 rfl) l12_371 iX12_falls ko_13 rfl rfl rfl rfl (t_X12_falls (d + 0) h) rfl (by omega) (by decide) (Nat.le_of_ble_eq_true rfl)) (fun x9 M8 => ?_)
      exact s_reti (iRow iCX12_breaks_1 3 rfl) rfl
    · refine s_step (g_iconst (iRow iCX12_breaks_0 11 rfl) kc_m1) ?_
      exact s_reti (iRow iCX12_breaks_0 12 rfl) rfl
  · refine s_step (g_iconst (iRow iCX12_breaks_0 11 rfl) kc_m1) ?_
    exact s_reti (iRow iCX12_breaks_0 12 rfl) rfl
abbrev YX12_forgive : mY := (RX12, "forgive", cX12_forgive, 2, (some .boolean), none)
set_option maxHeartbeats 400000 in
set_option maxRecDepth 20000 in
theorem t_X12_forgive {G : mg} {F : Nat} {a1 : Int32} {M : mm} {x : Bool} {M' : mm} (d : Nat) (h : m_X12_forgive F a1 M = some (x, M')) : CM G yX12_forgive cX12_forgive 2 (some .boolean) (d + 7) [vR 13 0, vI a1] M (some (vI (bI x))) M' := by
  refine ct_z (ls := [some (vR 13 0), some (vI a1)]) rfl rfl (Nat.le_of_ble_eq_true rfl) (fun Z => ?_) h
  show SW G (d + 7) YX12_forgive Z 0 [some (vR 13 0), some (vI a1)] [] M _ _
  unfold m_X12_forgive
  refine s_step (g_aload_n (iRow iCX12_forgive_0 0 rfl) rfl rfl) ?_
  refine s_step (g_iconst (iRow iCX12_forgive_0 1 rfl) kc_0) ?_
  refine s_step (g_putI (iRow iCX12_forgive_0 2 rfl) f12_157 (Or.inl rfl) ko_13) ?_
  refine s_nmM (fun M1 => ?_)
  refine s_step (g_aload_n (iRow iCX12_forgive_0 3 rfl) rfl rfl) ?_
  refine s_step (g_iload_n (iRow iCX12_forgive_0 4 rfl) rfl rfl) ?_
  refine s_cb (sf := fun b => vI (bI b) :: []) (fun _ _ h => h_V (As := [_]) (iRow iCX12_forgive_0 5 rfl) l12_422 iX12_isOath ko_13 rfl rfl rfl rfl (t_X12_isOath (d + 6) h) rfl (by omega) (by decide) (Nat.le_of_ble_eq_true rfl)) (fun b3 M2 => ?_)
  refine s_ifeqb (g_if_eq (tgt := 26) (iRow iCX12_forgive_0 6 rfl) (by decide)) (fun _ => ?_) (fun _ => ?_)
  · refine s_step (g_aload_n (iRow iCX12_forgive_0 7 rfl) rfl rfl) ?_
    refine s_step (g_getR (iRow iCX12_forgive_0 8 rfl) f12_123 ko_13 (r_13_49 _ _)) ?_
    refine s_step (g_iconst (iRow iCX12_forgive_0 9 rfl) kc_1) ?_
    refine s_gi (fun h => g_iald (iRow iCX12_forgive_0 10 rfl) kn_100 ka_100 h) ?_
    refine s_step (g_iload_n (iRow iCX12_forgive_0 11 rfl) rfl rfl) ?_
    refine s_step (g_ishr (iRow iCX12_forgive_0 12 rfl)) ?_
    refine s_step (g_iconst (iRow iCX12_forgive_0 13 rfl) kc_1) ?_
    refine s_step (g_iand (iRow iCX12_forgive_0 14 rfl)) ?_
    refine s_ifn (g_if_ne (tgt := 28) (iRow iCX12_forgive_0 15 rfl) (by decide)) (fun _ => ?_) (fun _ => ?_)
    · refine s_step (g_iconst (iRow iCX12_forgive_0 16 rfl) kc_0) ?_
      exact s_retz (b := false) (iRow iCX12_forgive_0 17 rfl) rfl rfl
    · refine s_step (g_aload_n (iRow iCX12_forgive_0 18 rfl) rfl rfl) ?_
      refine s_cv (stA := []) (fun _ h => h_V (As := []) (iRow iCX12_forgive_0 19 rfl) l12_435 iX12_keeps ko_13 rfl rfl rfl rfl (t_X12_keeps (d + 5) h) rfl (by omega) (by decide) (Nat.le_of_ble_eq_true rfl)) (fun M4 => ?_)
      refine s_step (g_aload_n (iRow iCX12_forgive_0 20 rfl) rfl rfl) ?_
      refine s_step (g_iload_n (iRow iCX12_forgive_0 21 rfl) rfl rfl) ?_
      refine s_cv (stA := []) (fun _ h => h_V (As := [_]) (iRow iCX12_forgive_0 22 rfl) l12_438 iX12_forgives ko_13 rfl rfl rfl rfl (t_X12_forgives (d + 6) h) rfl (by omega) (by decide) (Nat.le_of_ble_eq_true rfl)) (fun M5 => ?_)
      refine s_step (g_aload_n (iRow iCX12_forgive_0 23 rfl) rfl rfl) ?_
      refine s_cl (sf := fun x => vI x :: []) (fun _ _ h => h_V (As := []) (iRow iCX12_forgive_1 0 rfl) l12_371 iX12_falls ko_13 rfl rfl rfl rfl (t_X12_falls (d + 0) h) rfl (by omega) (by decide) (Nat.le_of_ble_eq_true rfl)) (fun x7 M6 => ?_)
      refine s_step (g_pop (iRow iCX12_forgive_1 1 rfl) rfl) ?_
      refine s_step (g_iconst (iRow iCX12_forgive_1 2 rfl) kc_1) ?_
      exact s_retz (b := true) (iRow iCX12_forgive_1 3 rfl) rfl rfl
  · refine s_step (g_iconst (iRow iCX12_forgive_0 16 rfl) kc_0) ?_
    exact s_retz (b := false) (iRow iCX12_forgive_0 17 rfl) rfl rfl
abbrev YX12_raise : mY := (RX12, "raise", cX12_raise, 2, (some .boolean), none)
set_option maxHeartbeats 400000 in
set_option maxRecDepth 20000 in
theorem t_X12_raise {G : mg} {F : Nat} {a1 : Int32} {M : mm} {x : Bool} {M' : mm} (d : Nat) (h : m_X12_raise F a1 M = some (x, M')) : CM G yX12_raise cX12_raise 2 (some .boolean) (d + 6) [vR 13 0, vI a1] M (some (vI (bI x))) M' := by
  refine ct_z (ls := [some (vR 13 0), some (vI a1)]) rfl rfl (Nat.le_of_ble_eq_true rfl) (fun Z => ?_) h
  show SW G (d + 6) YX12_raise Z 0 [some (vR 13 0), some (vI a1)] [] M _ _
  unfold m_X12_raise
  refine s_step (g_aload_n (iRow iCX12_raise_0 0 rfl) rfl rfl) ?_
  refine s_step (g_iconst (iRow iCX12_raise_0 1 rfl) kc_0) ?_
  refine s_step (g_putI (iRow iCX12_raise_0 2 rfl) f12_157 (Or.inl rfl) ko_13) ?_
  refine s_nmM (fun M1 => ?_)
  refine s_step (g_aload_n (iRow iCX12_raise_0 3 rfl) rfl rfl) ?_
  refine s_step (g_iload_n (iRow iCX12_raise_0 4 rfl) rfl rfl) ?_
  refine s_cb (sf := fun b => vI (bI b) :: []) (fun _ _ h => h_V (As := [_]) (iRow iCX12_raise_0 5 rfl) l12_425 iX12_isStone ko_13 rfl rfl rfl rfl (t_X12_isStone (d + 5) h) rfl (by omega) (by decide) (Nat.le_of_ble_eq_true rfl)) (fun b3 M2 => ?_)
  refine s_ifeqb (g_if_eq (tgt := 21) (iRow iCX12_raise_0 6 rfl) (by decide)) (fun _ => ?_) (fun _ => ?_)
  · refine s_step (g_aload_n (iRow iCX12_raise_0 7 rfl) rfl rfl) ?_
    refine s_step (g_iload_n (iRow iCX12_raise_0 8 rfl) rfl rfl) ?_
    refine s_cb (sf := fun b => vI (bI b) :: []) (fun _ _ h => h_V (As := [_]) (iRow iCX12_raise_0 9 rfl) l12_441 iX12_canRaise ko_13 rfl rfl rfl rfl (t_X12_canRaise (d + 0) h) rfl (by omega) (by decide) (Nat.le_of_ble_eq_true rfl)) (fun b5 M4 => ?_)
    refine s_ifneb (g_if_ne (tgt := 23) (iRow iCX12_raise_0 10 rfl) (by decide)) (fun _ => ?_) (fun _ => ?_)
    · refine s_step (g_aload_n (iRow iCX12_raise_0 13 rfl) rfl rfl) ?_
      refine s_cv (stA := []) (fun _ h => h_V (As := []) (iRow iCX12_raise_0 14 rfl) l12_435 iX12_keeps ko_13 rfl rfl rfl rfl (t_X12_keeps (d + 4) h) rfl (by omega) (by decide) (Nat.le_of_ble_eq_true rfl)) (fun M6 => ?_)
      refine s_step (g_aload_n (iRow iCX12_raise_0 15 rfl) rfl rfl) ?_
      refine s_step (g_getR (iRow iCX12_raise_0 16 rfl) f12_123 ko_13 (r_13_49 _ _)) ?_
      refine s_step (g_iconst (iRow iCX12_raise_0 17 rfl) kc_3) ?_
      refine s_step (g_dup2 (iRow iCX12_raise_0 18 rfl) rfl rfl) ?_
      refine s_gi (fun h => g_iald (iRow iCX12_raise_0 19 rfl) kn_100 ka_100 h) ?_
      refine s_step (g_iconst (iRow iCX12_raise_0 20 rfl) kc_1) ?_
      refine s_step (g_iload_n (iRow iCX12_raise_0 21 rfl) rfl rfl) ?_
      refine s_step (g_ishl (iRow iCX12_raise_0 22 rfl)) ?_
      refine s_step (g_ior (iRow iCX12_raise_0 23 rfl)) ?_
      refine s_gi (fun h => g_iast (iRow iCX12_raise_1 0 rfl) kn_100 ka_100 h) ?_
      refine s_nmM (fun M7 => ?_)
      refine s_step (g_iconst (iRow iCX12_raise_1 1 rfl) kc_1) ?_
      exact s_retz (b := true) (iRow iCX12_raise_1 2 rfl) rfl rfl
    · refine s_step (g_iconst (iRow iCX12_raise_0 11 rfl) kc_0) ?_
      exact s_retz (b := false) (iRow iCX12_raise_0 12 rfl) rfl rfl
  · refine s_step (g_iconst (iRow iCX12_raise_0 11 rfl) kc_0) ?_
    exact s_retz (b := false) (iRow iCX12_raise_0 12 rfl) rfl rfl
abbrev YX12_passes : mY := (RX12, "passes", cX12_passes, 1, (some .int), none)
set_option maxHeartbeats 400000 in
set_option maxRecDepth 20000 in
theorem t_X12_passes {G : mg} {F : Nat} {M : mm} {x : Int32} {M' : mm} (d : Nat) (h : m_X12_passes F M = some (x, M')) : CM G yX12_passes cX12_passes 1 (some .int) (d + 7) [vR 13 0] M (some (vI x)) M' := by
  refine ct_i (ls := [some (vR 13 0)]) rfl rfl (Nat.le_of_ble_eq_true rfl) (fun Z => ?_) h
  show SW G (d + 7) YX12_passes Z 0 [some (vR 13 0)] [] M _ _
  unfold m_X12_passes
  refine s_step (g_aload_n (iRow iCX12_passes_0 0 rfl) rfl rfl) ?_
  refine s_step (g_getR (iRow iCX12_passes_0 1 rfl) f12_123 ko_13 (r_13_49 _ _)) ?_
  refine s_step (g_iconst (iRow iCX12_passes_0 2 rfl) kc_0) ?_
  refine s_step (g_dup2 (iRow iCX12_passes_0 3 rfl) rfl rfl) ?_
  refine s_gi (fun h => g_iald (iRow iCX12_passes_0 4 rfl) kn_100 ka_100 h) ?_
  refine s_step (g_iconst (iRow iCX12_passes_0 5 rfl) kc_1) ?_
  refine s_step (g_iadd (iRow iCX12_passes_0 6 rfl)) ?_
  refine s_gi (fun h => g_iast (iRow iCX12_passes_0 7 rfl) kn_100 ka_100 h) ?_
  refine s_nmM (fun M1 => ?_)
  refine s_step (g_aload_n (iRow iCX12_passes_0 8 rfl) rfl rfl) ?_
  refine s_cl (sf := fun x => vI x :: []) (fun _ _ h => h_V (As := []) (iRow iCX12_passes_0 9 rfl) l12_371 iX12_falls ko_13 rfl rfl rfl rfl (t_X12_falls (d + 0) h) rfl (by omega) (by decide) (Nat.le_of_ble_eq_true rfl)) (fun x3 M2 => ?_)
  exact s_reti (iRow iCX12_passes_0 10 rfl) rfl
abbrev YX12_years : mY := (RX12, "years", cX12_years, 4, (some .int), none)
set_option maxHeartbeats 400000 in
set_option maxRecDepth 20000 in
theorem t_X12_years {G : mg} {F : Nat} {a1 : Int32} {M : mm} {x : Int32} {M' : mm} (d : Nat) (h : m_X12_years F a1 M = some (x, M')) : CM G yX12_years cX12_years 4 (some .int) (d + 8) [vR 13 0, vI a1] M (some (vI x)) M' := by
  refine ct_i (ls := [some (vR 13 0), some (vI a1), none, none]) rfl rfl (Nat.le_of_ble_eq_true rfl) (fun Z => ?_) h
  show SW G (d + 8) YX12_years Z 0 [some (vR 13 0), some (vI a1), none, none] [] M _ _
  unfold m_X12_years
  refine s_step (g_aload_n (iRow iCX12_years_0 0 rfl) rfl rfl) ?_
  refine s_step (g_iconst (iRow iCX12_years_0 1 rfl) kc_0) ?_
  refine s_step (g_putI (iRow iCX12_years_0 2 rfl) f12_157 (Or.inl rfl) ko_13) ?_
  refine s_nmM (fun M1 => ?_)
  refine s_step (g_iload_n (iRow iCX12_years_0 3 rfl) rfl rfl) ?_
  refine s_step (g_iconst (iRow iCX12_years_0 4 rfl) kc_1) ?_
  refine s_step (g_bipush (iRow iCX12_years_0 5 rfl) kb_100) ?_
  refine s_cb (sf := fun b => vI (bI b) :: []) (fun _ _ h => h_S (As := [_, _, _]) (iRow iCX12_years_0 6 rfl) l12_291 iX12_within rfl rfl (t_X12_within (d + 7) h) rfl (by omega) (by decide) (Nat.le_of_ble_eq_true rfl)) (fun b3 M2 => ?_)
  refine s_ifneb (g_if_ne (tgt := 17) (iRow iCX12_years_0 7 rfl) (by decide)) (fun _ => ?_) (fun _ => ?_)
  · refine s_step (g_aload_n (iRow iCX12_years_0 10 rfl) rfl rfl) ?_
    refine s_cv (stA := []) (fun _ h => h_V (As := []) (iRow iCX12_years_0 11 rfl) l12_435 iX12_keeps ko_13 rfl rfl rfl rfl (t_X12_keeps (d + 6) h) rfl (by omega) (by decide) (Nat.le_of_ble_eq_true rfl)) (fun M4 => ?_)
    refine s_step (g_iconst (iRow iCX12_years_0 12 rfl) kc_0) ?_
    refine s_step (g_istore_n (ls' := [some (vR 13 0), some (vI a1), some (vI (0 : Int32)), none]) (iRow iCX12_years_0 13 rfl) rfl (by decide) rfl) ?_
    refine s_step (g_iconst (iRow iCX12_years_0 14 rfl) kc_0) ?_
    refine s_step (g_istore_n (ls' := [some (vR 13 0), some (vI a1), some (vI (0 : Int32)), some (vI (0 : Int32))]) (iRow iCX12_years_0 15 rfl) rfl (by decide) rfl) ?_
    refine s_lp (fun z => [some (vR 13 0), some (vI a1), some (vI (z.1)), some (vI (z.2.1))]) (fun z => z.2.2) (fun z => LM G (d + 8) YX12_years Z 43 [none, none, some (vI (z.1)), none] [] z.2) rfl rfl ?_ ?_
    · rintro ⟨x5, x6, M7⟩
      show SW G (d + 8) YX12_years Z 25 [some (vR 13 0), some (vI a1), some (vI x5), some (vI x6)] [] M7 (b_X12_years_1c F a1 x5 x6 M7) _
      unfold b_X12_years_1c
      refine s_step (g_iload_n (iRow iCX12_years_0 16 rfl) rfl rfl) ?_
      refine s_step (g_iload_n (iRow iCX12_years_0 17 rfl) rfl rfl) ?_
      refine s_if (g_icmp_ge (tgt := 43) (iRow iCX12_years_0 18 rfl) (by decide)) (fun _ => ?_) (fun _ => ?_)
      · refine s_step (g_keep [false, false, true, false] rfl) ?_
        exact s_end (fun h => h)
      · refine s_step (g_iload_n (iRow iCX12_years_0 19 rfl) rfl rfl) ?_
        refine s_step (g_aload_n (iRow iCX12_years_0 20 rfl) rfl rfl) ?_
        refine s_cl (sf := fun x => vI x :: [vI x5]) (fun _ _ h => h_V (As := []) (iRow iCX12_years_0 21 rfl) l12_444 iX12_passes ko_13 rfl rfl rfl rfl (t_X12_passes (d + 0) h) rfl (by omega) (by decide) (Nat.le_of_ble_eq_true rfl)) (fun x9 M8 => ?_)
        refine s_step (g_ior (iRow iCX12_years_0 22 rfl)) ?_
        refine s_nmI (fun x10 => ?_)
        refine s_step (g_istore_n (ls' := [some (vR 13 0), some (vI a1), some (vI x10), some (vI x6)]) (iRow iCX12_years_0 23 rfl) rfl (by decide) rfl) ?_
        refine s_step (g_iincc (c := 1) (ls' := [some (vR 13 0), some (vI a1), some (vI x10), some (vI (x6 + (1 : Int32)))]) (iRow iCX12_years_1 0 rfl) rfl kc_1 (by decide) rfl) ?_
        refine s_step (g_goto (tgt := 25) (iRow iCX12_years_1 1 rfl) (by decide)) ?_
        exact s_end (fun h => h)
    · rintro ⟨x11, M12⟩
      show SW G (d + 8) YX12_years Z 43 [none, none, some (vI x11), none] [] M12 _ _
      try dsimp only
      refine s_step (g_iload_n (iRow iCX12_years_1 2 rfl) rfl rfl) ?_
      exact s_reti (iRow iCX12_years_1 3 rfl) rfl
  · refine s_step (g_iconst (iRow iCX12_years_0 8 rfl) kc_m1) ?_
    exact s_reti (iRow iCX12_years_0 9 rfl) rfl
abbrev YX12_copies_103_100 : mY := (RX12, "copies", cX12_copies, 5, none, none)
set_option maxHeartbeats 400000 in
set_option maxRecDepth 20000 in
theorem t_X12_copies_103_100 {G : mg} {F : Nat} {a2 : Int32} {a4 : Int32} {M : mm} {M' : mm} (d : Nat) (h : m_X12_copies_103_100 F a2 a4 M = some M') : CM G yX12_copies cX12_copies 5 none (d + 0) [vR 103 0, vI a2, vR 100 0, vI a4] M none M' := by
  refine ct_v (ls := [some (vR 103 0), some (vI a2), some (vR 100 0), some (vI a4), none]) rfl rfl (Nat.le_of_ble_eq_true rfl) (fun Z => ?_) h
  show SW G (d + 0) YX12_copies_103_100 Z 0 [some (vR 103 0), some (vI a2), some (vR 100 0), some (vI a4), none] [] M _ _
  unfold m_X12_copies_103_100
  refine s_step (g_iconst (iRow iCX12_copies_0 0 rfl) kc_0) ?_
  refine s_step (g_istore (ls' := [some (vR 103 0), some (vI a2), some (vR 100 0), some (vI a4), some (vI (0 : Int32))]) (iRow iCX12_copies_0 1 rfl) (by decide) rfl) ?_
  refine s_lp (fun z => [some (vR 103 0), some (vI a2), some (vR 100 0), some (vI a4), some (vI (z.1))]) (fun z => z.2) (fun z => LM G (d + 0) YX12_copies_103_100 Z 27 [none, none, none, none, none] [] z) rfl rfl ?_ ?_
  · rintro ⟨x1, M2⟩
    show SW G (d + 0) YX12_copies_103_100 Z 3 [some (vR 103 0), some (vI a2), some (vR 100 0), some (vI a4), some (vI x1)] [] M2 (b_X12_copies_103_100_1c F a2 a4 x1 M2) _
    unfold b_X12_copies_103_100_1c
    refine s_step (g_iload (iRow iCX12_copies_0 2 rfl) rfl) ?_
    refine s_step (g_iconst (iRow iCX12_copies_0 3 rfl) kc_4) ?_
    refine s_if (g_icmp_ge (tgt := 27) (iRow iCX12_copies_0 4 rfl) (by decide)) (fun _ => ?_) (fun _ => ?_)
    · refine s_step (g_keep [false, false, false, false, false] rfl) ?_
      exact s_end (fun h => h)
    · refine s_step (g_aload_n (iRow iCX12_copies_0 5 rfl) rfl rfl) ?_
      refine s_step (g_iload_n (iRow iCX12_copies_0 6 rfl) rfl rfl) ?_
      refine s_step (g_iload (iRow iCX12_copies_0 7 rfl) rfl) ?_
      refine s_step (g_iadd (iRow iCX12_copies_0 8 rfl)) ?_
      refine s_step (g_aload_n (iRow iCX12_copies_0 9 rfl) rfl rfl) ?_
      refine s_step (g_iload_n (iRow iCX12_copies_0 10 rfl) rfl rfl) ?_
      refine s_step (g_iload (iRow iCX12_copies_0 11 rfl) rfl) ?_
      refine s_step (g_iadd (iRow iCX12_copies_0 12 rfl)) ?_
      refine s_gi (fun h => g_iald (iRow iCX12_copies_0 13 rfl) kn_103 ka_103 h) ?_
      refine s_gi (fun h => g_iast (iRow iCX12_copies_0 14 rfl) kn_100 ka_100 h) ?_
      refine s_nmM (fun M3 => ?_)
      refine s_step (g_iincc (c := 1) (ls' := [some (vR 103 0), some (vI a2), some (vR 100 0), some (vI a4), some (vI (x1 + (1 : Int32)))]) (iRow iCX12_copies_0 15 rfl) rfl kc_1 (by decide) rfl) ?_
      refine s_step (g_goto (tgt := 3) (iRow iCX12_copies_0 16 rfl) (by decide)) ?_
      exact s_end (fun h => h)
  · rintro M4
    show SW G (d + 0) YX12_copies_103_100 Z 27 [none, none, none, none, none] [] M4 _ _
    try dsimp only
    exact s_retv (iRow iCX12_copies_0 17 rfl) rfl
abbrev YX12_undo : mY := (RX12, "undo", cX12_undo, 1, (some .boolean), none)
set_option maxHeartbeats 400000 in
set_option maxRecDepth 20000 in
theorem t_X12_undo {G : mg} {F : Nat} {M : mm} {x : Bool} {M' : mm} (d : Nat) (h : m_X12_undo F M = some (x, M')) : CM G yX12_undo cX12_undo 1 (some .boolean) (d + 1) [vR 13 0] M (some (vI (bI x))) M' := by
  refine ct_z (ls := [some (vR 13 0)]) rfl rfl (Nat.le_of_ble_eq_true rfl) (fun Z => ?_) h
  show SW G (d + 1) YX12_undo Z 0 [some (vR 13 0)] [] M _ _
  unfold m_X12_undo
  refine s_step (g_aload_n (iRow iCX12_undo_0 0 rfl) rfl rfl) ?_
  refine s_step (g_iconst (iRow iCX12_undo_0 1 rfl) kc_0) ?_
  refine s_step (g_putI (iRow iCX12_undo_0 2 rfl) f12_157 (Or.inl rfl) ko_13) ?_
  refine s_nmM (fun M1 => ?_)
  refine s_step (g_aload_n (iRow iCX12_undo_0 3 rfl) rfl rfl) ?_
  refine s_step (g_getI (iRow iCX12_undo_0 4 rfl) f12_383 ko_13) ?_
  refine s_ifn (g_if_ne (tgt := 14) (iRow iCX12_undo_0 5 rfl) (by decide)) (fun _ => ?_) (fun _ => ?_)
  · refine s_step (g_iconst (iRow iCX12_undo_0 6 rfl) kc_0) ?_
    exact s_retz (b := false) (iRow iCX12_undo_0 7 rfl) rfl rfl
  · refine s_step (g_aload_n (iRow iCX12_undo_0 8 rfl) rfl rfl) ?_
    refine s_step (g_dup (iRow iCX12_undo_0 9 rfl) rfl) ?_
    refine s_step (g_getI (iRow iCX12_undo_0 10 rfl) f12_383 ko_13) ?_
    refine s_step (g_iconst (iRow iCX12_undo_0 11 rfl) kc_1) ?_
    refine s_step (g_isub (iRow iCX12_undo_0 12 rfl)) ?_
    refine s_step (g_putI (iRow iCX12_undo_0 13 rfl) f12_383 (Or.inl rfl) ko_13) ?_
    refine s_nmM (fun M2 => ?_)
    refine s_step (g_aload_n (iRow iCX12_undo_0 14 rfl) rfl rfl) ?_
    refine s_step (g_getR (iRow iCX12_undo_0 15 rfl) f12_132 ko_13 (r_13_52 _ _)) ?_
    refine s_step (g_iconst (iRow iCX12_undo_0 16 rfl) kc_4) ?_
    refine s_step (g_aload_n (iRow iCX12_undo_0 17 rfl) rfl rfl) ?_
    refine s_step (g_getI (iRow iCX12_undo_0 18 rfl) f12_383 ko_13) ?_
    refine s_step (g_imul (iRow iCX12_undo_0 19 rfl)) ?_
    refine s_step (g_aload_n (iRow iCX12_undo_0 20 rfl) rfl rfl) ?_
    refine s_step (g_getR (iRow iCX12_undo_0 21 rfl) f12_123 ko_13 (r_13_49 _ _)) ?_
    refine s_step (g_iconst (iRow iCX12_undo_0 22 rfl) kc_0) ?_
    refine s_cv (stA := []) (fun _ h => h_S (As := [_, _, _, _]) (iRow iCX12_undo_0 23 rfl) l12_428 iX12_copies rfl rfl (t_X12_copies_103_100 (d + 0) h) rfl (by omega) (by decide) (Nat.le_of_ble_eq_true rfl)) (fun M3 => ?_)
    refine s_step (g_iconst (iRow iCX12_undo_1 0 rfl) kc_1) ?_
    exact s_retz (b := true) (iRow iCX12_undo_1 1 rfl) rfl rfl
abbrev YX12_goes : mY := (RX12, "goes", cX12_goes, 4, (some .boolean), none)
set_option maxHeartbeats 400000 in
set_option maxRecDepth 20000 in
theorem t_X12_goes {G : mg} {F : Nat} {a1 : Int32} {M : mm} {x : Bool} {M' : mm} (d : Nat) (h : m_X12_goes F a1 M = some (x, M')) : CM G yX12_goes cX12_goes 4 (some .boolean) (d + 8) [vR 13 0, vI a1] M (some (vI (bI x))) M' := by
  refine ct_z (ls := [some (vR 13 0), some (vI a1), none, none]) rfl rfl (Nat.le_of_ble_eq_true rfl) (fun Z => ?_) h
  show SW G (d + 8) YX12_goes Z 0 [some (vR 13 0), some (vI a1), none, none] [] M _ _
  unfold m_X12_goes
  refine s_step (g_aload_n (iRow iCX12_goes_0 0 rfl) rfl rfl) ?_
  refine s_step (g_getR (iRow iCX12_goes_0 1 rfl) f12_108 ko_13 (r_13_44 _ _)) ?_
  refine s_step (g_iload_n (iRow iCX12_goes_0 2 rfl) rfl rfl) ?_
  refine s_gi (fun h => g_iald (iRow iCX12_goes_0 3 rfl) kn_95 ka_95 h) ?_
  refine s_nmI (fun x1 => ?_)
  refine s_step (g_istore_n (ls' := [some (vR 13 0), some (vI a1), some (vI x1), none]) (iRow iCX12_goes_0 4 rfl) rfl (by decide) rfl) ?_
  refine s_step (g_aload_n (iRow iCX12_goes_0 5 rfl) rfl rfl) ?_
  refine s_step (g_getR (iRow iCX12_goes_0 6 rfl) f12_111 ko_13 (r_13_45 _ _)) ?_
  refine s_step (g_iload_n (iRow iCX12_goes_0 7 rfl) rfl rfl) ?_
  refine s_gi (fun h => g_iald (iRow iCX12_goes_0 8 rfl) kn_96 ka_96 h) ?_
  refine s_nmI (fun x2 => ?_)
  refine s_step (g_istore_n (ls' := [some (vR 13 0), some (vI a1), some (vI x1), some (vI x2)]) (iRow iCX12_goes_0 9 rfl) rfl (by decide) rfl) ?_
  refine s_step (g_aload_n (iRow iCX12_goes_0 10 rfl) rfl rfl) ?_
  refine s_step (g_iconst (iRow iCX12_goes_0 11 rfl) kc_0) ?_
  refine s_step (g_putI (iRow iCX12_goes_0 12 rfl) f12_447 (Or.inl rfl) ko_13) ?_
  refine s_nmM (fun M3 => ?_)
  refine s_step (g_iload_n (iRow iCX12_goes_0 13 rfl) rfl rfl) ?_
  refine s_step (g_iconst (iRow iCX12_goes_0 14 rfl) kc_3) ?_
  refine s_ifn (g_icmp_ne (tgt := 34) (iRow iCX12_goes_0 15 rfl) (by decide)) (fun _ => ?_) (fun _ => ?_)
  · refine s_step (g_aload_n (iRow iCX12_goes_0 16 rfl) rfl rfl) ?_
    refine s_step (g_aload_n (iRow iCX12_goes_0 17 rfl) rfl rfl) ?_
    refine s_cl (sf := fun x => vI x :: [vR 13 0]) (fun _ _ h => h_V (As := []) (iRow iCX12_goes_0 18 rfl) l12_444 iX12_passes ko_13 rfl rfl rfl rfl (t_X12_passes (d + 0) h) rfl (by omega) (by decide) (Nat.le_of_ble_eq_true rfl)) (fun x17 M16 => ?_)
    refine s_step (g_putI (iRow iCX12_goes_0 19 rfl) f12_447 (Or.inl rfl) ko_13) ?_
    refine s_nmM (fun M18 => ?_)
    refine s_step (g_iconst (iRow iCX12_goes_0 20 rfl) kc_1) ?_
    exact s_retz (b := true) (iRow iCX12_goes_0 21 rfl) rfl rfl
  · refine s_step (g_iload_n (iRow iCX12_goes_0 22 rfl) rfl rfl) ?_
    refine s_nj 80 (fun z => [some (vR 13 0), none, some (vI x1), some (vI x2)]) (fun z => []) (fun z => z) ?_ (fun j80 hj80 => ?_)
    · rintro M8
      show SW G (d + 8) YX12_goes Z 80 [some (vR 13 0), none, some (vI x1), some (vI x2)] [] M8 _ _
      try dsimp only
      refine s_step (g_iload_n (iRow iCX12_goes_2 0 rfl) rfl rfl) ?_
      refine s_bd (fun z => LM G (d + 8) YX12_goes Z 124 [some (vR 13 0), none, none, none] [] z) ?_ ?_
      · refine s_ifn (g_if_ne (tgt := 99) (iRow iCX12_goes_2 1 rfl) (by decide)) (fun _ => ?_) (fun _ => ?_)
        · refine s_step (g_aload_n (iRow iCX12_goes_2 2 rfl) rfl rfl) ?_
          refine s_step (g_getR (iRow iCX12_goes_2 3 rfl) f12_123 ko_13 (r_13_49 _ _)) ?_
          refine s_step (g_iconst (iRow iCX12_goes_2 4 rfl) kc_1) ?_
          refine s_step (g_dup2 (iRow iCX12_goes_2 5 rfl) rfl rfl) ?_
          refine s_gi (fun h => g_iald (iRow iCX12_goes_2 6 rfl) kn_100 ka_100 h) ?_
          refine s_step (g_iconst (iRow iCX12_goes_2 7 rfl) kc_1) ?_
          refine s_step (g_iload_n (iRow iCX12_goes_2 8 rfl) rfl rfl) ?_
          refine s_step (g_ishl (iRow iCX12_goes_2 9 rfl)) ?_
          refine s_step (g_ior (iRow iCX12_goes_2 10 rfl)) ?_
          refine s_gi (fun h => g_iast (iRow iCX12_goes_2 11 rfl) kn_100 ka_100 h) ?_
          refine s_nmM (fun M11 => ?_)
          refine s_step (g_goto (tgt := 124) (iRow iCX12_goes_2 12 rfl) (by decide)) ?_
          refine s_step (g_keep [true, false, false, false] rfl) ?_
          exact s_end (fun h => h)
        · refine s_step (g_iload_n (iRow iCX12_goes_2 13 rfl) rfl rfl) ?_
          refine s_step (g_iconst (iRow iCX12_goes_2 14 rfl) kc_1) ?_
          refine s_ifn (g_icmp_ne (tgt := 112) (iRow iCX12_goes_2 15 rfl) (by decide)) (fun _ => ?_) (fun _ => ?_)
          · refine s_step (g_aload_n (iRow iCX12_goes_2 16 rfl) rfl rfl) ?_
            refine s_step (g_iload_n (iRow iCX12_goes_2 17 rfl) rfl rfl) ?_
            refine s_cv (stA := []) (fun _ h => h_V (As := [_]) (iRow iCX12_goes_2 18 rfl) l12_438 iX12_forgives ko_13 rfl rfl rfl rfl (t_X12_forgives (d + 7) h) rfl (by omega) (by decide) (Nat.le_of_ble_eq_true rfl)) (fun M10 => ?_)
            refine s_step (g_goto (tgt := 124) (iRow iCX12_goes_2 19 rfl) (by decide)) ?_
            refine s_step (g_keep [true, false, false, false] rfl) ?_
            exact s_end (fun h => h)
          · refine s_step (g_aload_n (iRow iCX12_goes_2 20 rfl) rfl rfl) ?_
            refine s_step (g_getR (iRow iCX12_goes_2 21 rfl) f12_123 ko_13 (r_13_49 _ _)) ?_
            refine s_step (g_iconst (iRow iCX12_goes_2 22 rfl) kc_3) ?_
            refine s_step (g_dup2 (iRow iCX12_goes_2 23 rfl) rfl rfl) ?_
            refine s_gi (fun h => g_iald (iRow iCX12_goes_3 0 rfl) kn_100 ka_100 h) ?_
            refine s_step (g_iconst (iRow iCX12_goes_3 1 rfl) kc_1) ?_
            refine s_step (g_iload_n (iRow iCX12_goes_3 2 rfl) rfl rfl) ?_
            refine s_step (g_ishl (iRow iCX12_goes_3 3 rfl)) ?_
            refine s_step (g_ior (iRow iCX12_goes_3 4 rfl)) ?_
            refine s_gi (fun h => g_iast (iRow iCX12_goes_3 5 rfl) kn_100 ka_100 h) ?_
            refine s_nmM (fun M9 => ?_)
            refine s_step (g_keep [true, false, false, false] rfl) ?_
            exact s_end (fun h => h)
      · rintro M12
        show SW G (d + 8) YX12_goes Z 124 [some (vR 13 0), none, none, none] [] M12 _ _
        try dsimp only
        refine s_step (g_aload_n (iRow iCX12_goes_3 6 rfl) rfl rfl) ?_
        refine s_step (g_aload_n (iRow iCX12_goes_3 7 rfl) rfl rfl) ?_
        refine s_cl (sf := fun x => vI x :: [vR 13 0]) (fun _ _ h => h_V (As := []) (iRow iCX12_goes_3 8 rfl) l12_371 iX12_falls ko_13 rfl rfl rfl rfl (t_X12_falls (d + 1) h) rfl (by omega) (by decide) (Nat.le_of_ble_eq_true rfl)) (fun x14 M13 => ?_)
        refine s_step (g_putI (iRow iCX12_goes_3 9 rfl) f12_447 (Or.inl rfl) ko_13) ?_
        refine s_nmM (fun M15 => ?_)
        refine s_step (g_iconst (iRow iCX12_goes_3 10 rfl) kc_1) ?_
        exact s_retz (b := true) (iRow iCX12_goes_3 11 rfl) rfl rfl
    · refine s_ifn (g_if_ne (tgt := 49) (iRow iCX12_goes_0 23 rfl) (by decide)) (fun _ => ?_) (fun _ => ?_)
      · refine s_step (g_aload_n (iRow iCX12_goes_1 0 rfl) rfl rfl) ?_
        refine s_step (g_iload_n (iRow iCX12_goes_1 1 rfl) rfl rfl) ?_
        refine s_cb (sf := fun b => vI (bI b) :: []) (fun _ _ h => h_V (As := [_]) (iRow iCX12_goes_1 2 rfl) l12_432 iX12_canBreak ko_13 rfl rfl rfl rfl (t_X12_canBreak (d + 7) h) rfl (by omega) (by decide) (Nat.le_of_ble_eq_true rfl)) (fun b7 M6 => ?_)
        refine s_ifneb (g_if_ne (tgt := 80) (iRow iCX12_goes_1 3 rfl) (by decide)) (fun _ => ?_) (fun _ => ?_)
        · refine s_step (g_keep [true, false, true, true] rfl) ?_
          exact hj80 _
        · refine s_step (g_goto (tgt := 78) (iRow iCX12_goes_1 4 rfl) (by decide)) ?_
          refine s_step (g_iconst (iRow iCX12_goes_1 22 rfl) kc_0) ?_
          exact s_retz (b := false) (iRow iCX12_goes_1 23 rfl) rfl rfl
      · refine s_step (g_iload_n (iRow iCX12_goes_1 5 rfl) rfl rfl) ?_
        refine s_step (g_iconst (iRow iCX12_goes_1 6 rfl) kc_1) ?_
        refine s_ifn (g_icmp_ne (tgt := 70) (iRow iCX12_goes_1 7 rfl) (by decide)) (fun _ => ?_) (fun _ => ?_)
        · refine s_step (g_aload_n (iRow iCX12_goes_1 8 rfl) rfl rfl) ?_
          refine s_step (g_getR (iRow iCX12_goes_1 9 rfl) f12_123 ko_13 (r_13_49 _ _)) ?_
          refine s_step (g_iconst (iRow iCX12_goes_1 10 rfl) kc_1) ?_
          refine s_gi (fun h => g_iald (iRow iCX12_goes_1 11 rfl) kn_100 ka_100 h) ?_
          refine s_step (g_iload_n (iRow iCX12_goes_1 12 rfl) rfl rfl) ?_
          refine s_step (g_ishr (iRow iCX12_goes_1 13 rfl)) ?_
          refine s_step (g_iconst (iRow iCX12_goes_1 14 rfl) kc_1) ?_
          refine s_step (g_iand (iRow iCX12_goes_1 15 rfl)) ?_
          refine s_ifn (g_if_ne (tgt := 80) (iRow iCX12_goes_1 16 rfl) (by decide)) (fun _ => ?_) (fun _ => ?_)
          · refine s_step (g_goto (tgt := 78) (iRow iCX12_goes_1 17 rfl) (by decide)) ?_
            refine s_step (g_iconst (iRow iCX12_goes_1 22 rfl) kc_0) ?_
            exact s_retz (b := false) (iRow iCX12_goes_1 23 rfl) rfl rfl
          · refine s_step (g_keep [true, false, true, true] rfl) ?_
            exact hj80 _
        · refine s_step (g_aload_n (iRow iCX12_goes_1 18 rfl) rfl rfl) ?_
          refine s_step (g_iload_n (iRow iCX12_goes_1 19 rfl) rfl rfl) ?_
          refine s_cb (sf := fun b => vI (bI b) :: []) (fun _ _ h => h_V (As := [_]) (iRow iCX12_goes_1 20 rfl) l12_441 iX12_canRaise ko_13 rfl rfl rfl rfl (t_X12_canRaise (d + 2) h) rfl (by omega) (by decide) (Nat.le_of_ble_eq_true rfl)) (fun b5 M4 => ?_)
          refine s_ifneb (g_if_ne (tgt := 80) (iRow iCX12_goes_1 21 rfl) (by decide)) (fun _ => ?_) (fun _ => ?_)
          · refine s_step (g_keep [true, false, true, true] rfl) ?_
            exact hj80 _
          · refine s_step (g_iconst (iRow iCX12_goes_1 22 rfl) kc_0) ?_
            exact s_retz (b := false) (iRow iCX12_goes_1 23 rfl) rfl rfl
abbrev YX12_copies_100_101 : mY := (RX12, "copies", cX12_copies, 5, none, none)
set_option maxHeartbeats 400000 in
set_option maxRecDepth 20000 in
theorem t_X12_copies_100_101 {G : mg} {F : Nat} {a2 : Int32} {a4 : Int32} {M : mm} {M' : mm} (d : Nat) (h : m_X12_copies_100_101 F a2 a4 M = some M') : CM G yX12_copies cX12_copies 5 none (d + 0) [vR 100 0, vI a2, vR 101 0, vI a4] M none M' := by
  refine ct_v (ls := [some (vR 100 0), some (vI a2), some (vR 101 0), some (vI a4), none]) rfl rfl (Nat.le_of_ble_eq_true rfl) (fun Z => ?_) h
  show SW G (d + 0) YX12_copies_100_101 Z 0 [some (vR 100 0), some (vI a2), some (vR 101 0), some (vI a4), none] [] M _ _
  unfold m_X12_copies_100_101
  refine s_step (g_iconst (iRow iCX12_copies_0 0 rfl) kc_0) ?_
  refine s_step (g_istore (ls' := [some (vR 100 0), some (vI a2), some (vR 101 0), some (vI a4), some (vI (0 : Int32))]) (iRow iCX12_copies_0 1 rfl) (by decide) rfl) ?_
  refine s_lp (fun z => [some (vR 100 0), some (vI a2), some (vR 101 0), some (vI a4), some (vI (z.1))]) (fun z => z.2) (fun z => LM G (d + 0) YX12_copies_100_101 Z 27 [none, none, none, none, none] [] z) rfl rfl ?_ ?_
  · rintro ⟨x1, M2⟩
    show SW G (d + 0) YX12_copies_100_101 Z 3 [some (vR 100 0), some (vI a2), some (vR 101 0), some (vI a4), some (vI x1)] [] M2 (b_X12_copies_100_101_1c F a2 a4 x1 M2) _
    unfold b_X12_copies_100_101_1c
    refine s_step (g_iload (iRow iCX12_copies_0 2 rfl) rfl) ?_
    refine s_step (g_iconst (iRow iCX12_copies_0 3 rfl) kc_4) ?_
    refine s_if (g_icmp_ge (tgt := 27) (iRow iCX12_copies_0 4 rfl) (by decide)) (fun _ => ?_) (fun _ => ?_)
    · refine s_step (g_keep [false, false, false, false, false] rfl) ?_
      exact s_end (fun h => h)
    · refine s_step (g_aload_n (iRow iCX12_copies_0 5 rfl) rfl rfl) ?_
      refine s_step (g_iload_n (iRow iCX12_copies_0 6 rfl) rfl rfl) ?_
      refine s_step (g_iload (iRow iCX12_copies_0 7 rfl) rfl) ?_
      refine s_step (g_iadd (iRow iCX12_copies_0 8 rfl)) ?_
      refine s_step (g_aload_n (iRow iCX12_copies_0 9 rfl) rfl rfl) ?_
      refine s_step (g_iload_n (iRow iCX12_copies_0 10 rfl) rfl rfl) ?_
      refine s_step (g_iload (iRow iCX12_copies_0 11 rfl) rfl) ?_
      refine s_step (g_iadd (iRow iCX12_copies_0 12 rfl)) ?_
      refine s_gi (fun h => g_iald (iRow iCX12_copies_0 13 rfl) kn_100 ka_100 h) ?_
      refine s_gi (fun h => g_iast (iRow iCX12_copies_0 14 rfl) kn_101 ka_101 h) ?_
      refine s_nmM (fun M3 => ?_)
      refine s_step (g_iincc (c := 1) (ls' := [some (vR 100 0), some (vI a2), some (vR 101 0), some (vI a4), some (vI (x1 + (1 : Int32)))]) (iRow iCX12_copies_0 15 rfl) rfl kc_1 (by decide) rfl) ?_
      refine s_step (g_goto (tgt := 3) (iRow iCX12_copies_0 16 rfl) (by decide)) ?_
      exact s_end (fun h => h)
  · rintro M4
    show SW G (d + 0) YX12_copies_100_101 Z 27 [none, none, none, none, none] [] M4 _ _
    try dsimp only
    exact s_retv (iRow iCX12_copies_0 17 rfl) rfl
abbrev YX12_copies_101_100 : mY := (RX12, "copies", cX12_copies, 5, none, none)
set_option maxHeartbeats 400000 in
set_option maxRecDepth 20000 in
theorem t_X12_copies_101_100 {G : mg} {F : Nat} {a2 : Int32} {a4 : Int32} {M : mm} {M' : mm} (d : Nat) (h : m_X12_copies_101_100 F a2 a4 M = some M') : CM G yX12_copies cX12_copies 5 none (d + 0) [vR 101 0, vI a2, vR 100 0, vI a4] M none M' := by
  refine ct_v (ls := [some (vR 101 0), some (vI a2), some (vR 100 0), some (vI a4), none]) rfl rfl (Nat.le_of_ble_eq_true rfl) (fun Z => ?_) h
  show SW G (d + 0) YX12_copies_101_100 Z 0 [some (vR 101 0), some (vI a2), some (vR 100 0), some (vI a4), none] [] M _ _
  unfold m_X12_copies_101_100
  refine s_step (g_iconst (iRow iCX12_copies_0 0 rfl) kc_0) ?_
  refine s_step (g_istore (ls' := [some (vR 101 0), some (vI a2), some (vR 100 0), some (vI a4), some (vI (0 : Int32))]) (iRow iCX12_copies_0 1 rfl) (by decide) rfl) ?_
  refine s_lp (fun z => [some (vR 101 0), some (vI a2), some (vR 100 0), some (vI a4), some (vI (z.1))]) (fun z => z.2) (fun z => LM G (d + 0) YX12_copies_101_100 Z 27 [none, none, none, none, none] [] z) rfl rfl ?_ ?_
  · rintro ⟨x1, M2⟩
    show SW G (d + 0) YX12_copies_101_100 Z 3 [some (vR 101 0), some (vI a2), some (vR 100 0), some (vI a4), some (vI x1)] [] M2 (b_X12_copies_101_100_1c F a2 a4 x1 M2) _
    unfold b_X12_copies_101_100_1c
    refine s_step (g_iload (iRow iCX12_copies_0 2 rfl) rfl) ?_
    refine s_step (g_iconst (iRow iCX12_copies_0 3 rfl) kc_4) ?_
    refine s_if (g_icmp_ge (tgt := 27) (iRow iCX12_copies_0 4 rfl) (by decide)) (fun _ => ?_) (fun _ => ?_)
    · refine s_step (g_keep [false, false, false, false, false] rfl) ?_
      exact s_end (fun h => h)
    · refine s_step (g_aload_n (iRow iCX12_copies_0 5 rfl) rfl rfl) ?_
      refine s_step (g_iload_n (iRow iCX12_copies_0 6 rfl) rfl rfl) ?_
      refine s_step (g_iload (iRow iCX12_copies_0 7 rfl) rfl) ?_
      refine s_step (g_iadd (iRow iCX12_copies_0 8 rfl)) ?_
      refine s_step (g_aload_n (iRow iCX12_copies_0 9 rfl) rfl rfl) ?_
      refine s_step (g_iload_n (iRow iCX12_copies_0 10 rfl) rfl rfl) ?_
      refine s_step (g_iload (iRow iCX12_copies_0 11 rfl) rfl) ?_
      refine s_step (g_iadd (iRow iCX12_copies_0 12 rfl)) ?_
      refine s_gi (fun h => g_iald (iRow iCX12_copies_0 13 rfl) kn_101 ka_101 h) ?_
      refine s_gi (fun h => g_iast (iRow iCX12_copies_0 14 rfl) kn_100 ka_100 h) ?_
      refine s_nmM (fun M3 => ?_)
      refine s_step (g_iincc (c := 1) (ls' := [some (vR 101 0), some (vI a2), some (vR 100 0), some (vI a4), some (vI (x1 + (1 : Int32)))]) (iRow iCX12_copies_0 15 rfl) rfl kc_1 (by decide) rfl) ?_
      refine s_step (g_goto (tgt := 3) (iRow iCX12_copies_0 16 rfl) (by decide)) ?_
      exact s_end (fun h => h)
  · rintro M4
    show SW G (d + 0) YX12_copies_101_100 Z 27 [none, none, none, none, none] [] M4 _ _
    try dsimp only
    exact s_retv (iRow iCX12_copies_0 17 rfl) rfl
abbrev YX12_judged : mY := (RX12, "judged", cX12_judged, 5, (some .int), none)
set_option maxHeartbeats 400000 in
set_option maxRecDepth 20000 in
theorem t_X12_judged {G : mg} {F : Nat} {a1 : Int32} {M : mm} {x : Int32} {M' : mm} (d : Nat) (h : m_X12_judged F a1 M = some (x, M')) : CM G yX12_judged cX12_judged 5 (some .int) (d + 9) [vR 13 0, vI a1] M (some (vI x)) M' := by
  refine ct_i (ls := [some (vR 13 0), some (vI a1), none, none, none]) rfl rfl (Nat.le_of_ble_eq_true rfl) (fun Z => ?_) h
  show SW G (d + 9) YX12_judged Z 0 [some (vR 13 0), some (vI a1), none, none, none] [] M _ _
  unfold m_X12_judged
  refine s_step (g_aload_n (iRow iCX12_judged_0 0 rfl) rfl rfl) ?_
  refine s_step (g_iconst (iRow iCX12_judged_0 1 rfl) kc_0) ?_
  refine s_step (g_putI (iRow iCX12_judged_0 2 rfl) f12_157 (Or.inl rfl) ko_13) ?_
  refine s_nmM (fun M1 => ?_)
  refine s_step (g_iload_n (iRow iCX12_judged_0 3 rfl) rfl rfl) ?_
  refine s_step (g_iconst (iRow iCX12_judged_0 4 rfl) kc_0) ?_
  refine s_step (g_iconst (iRow iCX12_judged_0 5 rfl) kc_2) ?_
  refine s_cb (sf := fun b => vI (bI b) :: []) (fun _ _ h => h_S (As := [_, _, _]) (iRow iCX12_judged_0 6 rfl) l12_291 iX12_within rfl rfl (t_X12_within (d + 8) h) rfl (by omega) (by decide) (Nat.le_of_ble_eq_true rfl)) (fun b3 M2 => ?_)
  refine s_ifneb (g_if_ne (tgt := 17) (iRow iCX12_judged_0 7 rfl) (by decide)) (fun _ => ?_) (fun _ => ?_)
  · refine s_step (g_aload_n (iRow iCX12_judged_0 10 rfl) rfl rfl) ?_
    refine s_step (g_getR (iRow iCX12_judged_0 11 rfl) f12_123 ko_13 (r_13_49 _ _)) ?_
    refine s_step (g_iconst (iRow iCX12_judged_0 12 rfl) kc_0) ?_
    refine s_step (g_aload_n (iRow iCX12_judged_0 13 rfl) rfl rfl) ?_
    refine s_step (g_getR (iRow iCX12_judged_0 14 rfl) f12_126 ko_13 (r_13_50 _ _)) ?_
    refine s_step (g_iconst (iRow iCX12_judged_0 15 rfl) kc_0) ?_
    refine s_cv (stA := []) (fun _ h => h_S (As := [_, _, _, _]) (iRow iCX12_judged_0 16 rfl) l12_428 iX12_copies rfl rfl (t_X12_copies_100_101 (d + 8) h) rfl (by omega) (by decide) (Nat.le_of_ble_eq_true rfl)) (fun M4 => ?_)
    refine s_step (g_aload_n (iRow iCX12_judged_0 17 rfl) rfl rfl) ?_
    refine s_cv (stA := []) (fun _ h => h_V (As := []) (iRow iCX12_judged_0 18 rfl) l12_380 iX12_fresh ko_13 rfl rfl rfl rfl (t_X12_fresh (d + 1) h) rfl (by omega) (by decide) (Nat.le_of_ble_eq_true rfl)) (fun M5 => ?_)
    refine s_step (g_iconst (iRow iCX12_judged_0 19 rfl) kc_m1) ?_
    refine s_step (g_istore_n (ls' := [some (vR 13 0), some (vI a1), some (vI (-1 : Int32)), none, none]) (iRow iCX12_judged_0 20 rfl) rfl (by decide) rfl) ?_
    refine s_step (g_iconst (iRow iCX12_judged_0 21 rfl) kc_m1) ?_
    refine s_step (g_istore_n (ls' := [some (vR 13 0), some (vI a1), some (vI (-1 : Int32)), some (vI (-1 : Int32)), none]) (iRow iCX12_judged_0 22 rfl) rfl (by decide) rfl) ?_
    refine s_step (g_iconst (iRow iCX12_judged_0 23 rfl) kc_0) ?_
    refine s_step (g_istore (ls' := [some (vR 13 0), some (vI a1), some (vI (-1 : Int32)), some (vI (-1 : Int32)), some (vI (0 : Int32))]) (iRow iCX12_judged_1 0 rfl) (by decide) rfl) ?_
    refine s_lp (fun z => [some (vR 13 0), some (vI a1), some (vI (z.1)), some (vI (z.2.1)), some (vI (z.2.2.1))]) (fun z => z.2.2.2) (fun z => LM G (d + 9) YX12_judged Z 88 [some (vR 13 0), some (vI a1), some (vI (z.1)), some (vI (z.2.1)), none] [] z.2.2) rfl rfl ?_ ?_
    · rintro ⟨x6, x7, x8, M9⟩
      show SW G (d + 9) YX12_judged Z 41 [some (vR 13 0), some (vI a1), some (vI x6), some (vI x7), some (vI x8)] [] M9 (b_X12_judged_1c F x6 x7 x8 M9) _
      unfold b_X12_judged_1c
      refine s_step (g_iload (iRow iCX12_judged_1 1 rfl) rfl) ?_
      refine s_step (g_aload_n (iRow iCX12_judged_1 2 rfl) rfl rfl) ?_
      refine s_step (g_getR (iRow iCX12_judged_1 3 rfl) f12_105 ko_13 (r_13_43 _ _)) ?_
      refine s_step (g_iconst (iRow iCX12_judged_1 4 rfl) kc_0) ?_
      refine s_gi (fun h => g_iald (iRow iCX12_judged_1 5 rfl) kn_94 ka_94 h) ?_
      refine s_if (g_icmp_ge (tgt := 88) (iRow iCX12_judged_1 6 rfl) (by decide)) (fun _ => ?_) (fun _ => ?_)
      · refine s_step (g_keep [true, true, true, true, false] rfl) ?_
        exact s_end (fun h => h)
      · refine s_step (g_aload_n (iRow iCX12_judged_1 7 rfl) rfl rfl) ?_
        refine s_step (g_iload (iRow iCX12_judged_1 8 rfl) rfl) ?_
        refine s_cb (sf := fun b => vI (bI b) :: []) (fun _ _ h => h_V (As := [_]) (iRow iCX12_judged_1 9 rfl) l12_450 iX12_goes ko_13 rfl rfl rfl rfl (t_X12_goes (d + 0) h) rfl (by omega) (by decide) (Nat.le_of_ble_eq_true rfl)) (fun b11 M10 => ?_)
        refine s_bd (fun z => LM G (d + 9) YX12_judged Z 68 [some (vR 13 0), some (vI a1), some (vI z), some (vI x7), some (vI x8)] [] M10) ?_ ?_
        · refine s_ifneb (g_if_ne (tgt := 68) (iRow iCX12_judged_1 10 rfl) (by decide)) (fun _ => ?_) (fun _ => ?_)
          · exact s_end (fun h => h)
          · refine s_step (g_iload_n (iRow iCX12_judged_1 11 rfl) rfl rfl) ?_
            refine s_if (g_if_ge (tgt := 68) (iRow iCX12_judged_1 12 rfl) (by decide)) (fun _ => ?_) (fun _ => ?_)
            · exact s_end (fun h => h)
            · refine s_step (g_iload (iRow iCX12_judged_1 13 rfl) rfl) ?_
              refine s_step (g_istore_n (ls' := [some (vR 13 0), some (vI a1), some (vI x8), some (vI x7), some (vI x8)]) (iRow iCX12_judged_1 14 rfl) rfl (by decide) rfl) ?_
              exact s_end (fun h => h)
        · rintro x12
          show SW G (d + 9) YX12_judged Z 68 [some (vR 13 0), some (vI a1), some (vI x12), some (vI x7), some (vI x8)] [] M10 _ _
          try dsimp only
          refine s_step (g_aload_n (iRow iCX12_judged_1 15 rfl) rfl rfl) ?_
          refine s_step (g_getI (iRow iCX12_judged_1 16 rfl) f12_447 ko_13) ?_
          refine s_bd (fun z => LM G (d + 9) YX12_judged Z 82 [some (vR 13 0), some (vI a1), some (vI x12), some (vI z), some (vI x8)] [] M10) ?_ ?_
          · refine s_if (g_if_eq (tgt := 82) (iRow iCX12_judged_1 17 rfl) (by decide)) (fun _ => ?_) (fun _ => ?_)
            · exact s_end (fun h => h)
            · refine s_step (g_iload_n (iRow iCX12_judged_1 18 rfl) rfl rfl) ?_
              refine s_if (g_if_ge (tgt := 82) (iRow iCX12_judged_1 19 rfl) (by decide)) (fun _ => ?_) (fun _ => ?_)
              · exact s_end (fun h => h)
              · refine s_step (g_iload (iRow iCX12_judged_1 20 rfl) rfl) ?_
                refine s_step (g_istore_n (ls' := [some (vR 13 0), some (vI a1), some (vI x12), some (vI x8), some (vI x8)]) (iRow iCX12_judged_1 21 rfl) rfl (by decide) rfl) ?_
                exact s_end (fun h => h)
          · rintro x13
            show SW G (d + 9) YX12_judged Z 82 [some (vR 13 0), some (vI a1), some (vI x12), some (vI x13), some (vI x8)] [] M10 _ _
            try dsimp only
            refine s_step (g_iincc (c := 1) (ls' := [some (vR 13 0), some (vI a1), some (vI x12), some (vI x13), some (vI (x8 + (1 : Int32)))]) (iRow iCX12_judged_1 22 rfl) rfl kc_1 (by decide) rfl) ?_
            refine s_step (g_goto (tgt := 41) (iRow iCX12_judged_1 23 rfl) (by decide)) ?_
            exact s_end (fun h => h)
    · rintro ⟨x14, x15, M16⟩
      show SW G (d + 9) YX12_judged Z 88 [some (vR 13 0), some (vI a1), some (vI x14), some (vI x15), none] [] M16 _ _
      try dsimp only
      refine s_step (g_aload_n (iRow iCX12_judged_2 0 rfl) rfl rfl) ?_
      refine s_step (g_getR (iRow iCX12_judged_2 1 rfl) f12_123 ko_13 (r_13_49 _ _)) ?_
      refine s_step (g_iconst (iRow iCX12_judged_2 2 rfl) kc_3) ?_
      refine s_gi (fun h => g_iald (iRow iCX12_judged_2 3 rfl) kn_100 ka_100 h) ?_
      refine s_nmI (fun x17 => ?_)
      refine s_step (g_istore (ls' := [some (vR 13 0), some (vI a1), some (vI x14), some (vI x15), some (vI x17)]) (iRow iCX12_judged_2 4 rfl) (by decide) rfl) ?_
      refine s_step (g_aload_n (iRow iCX12_judged_2 5 rfl) rfl rfl) ?_
      refine s_step (g_getR (iRow iCX12_judged_2 6 rfl) f12_126 ko_13 (r_13_50 _ _)) ?_
      refine s_step (g_iconst (iRow iCX12_judged_2 7 rfl) kc_0) ?_
      refine s_step (g_aload_n (iRow iCX12_judged_2 8 rfl) rfl rfl) ?_
      refine s_step (g_getR (iRow iCX12_judged_2 9 rfl) f12_123 ko_13 (r_13_49 _ _)) ?_
      refine s_step (g_iconst (iRow iCX12_judged_2 10 rfl) kc_0) ?_
      refine s_cv (stA := []) (fun _ h => h_S (As := [_, _, _, _]) (iRow iCX12_judged_2 11 rfl) l12_428 iX12_copies rfl rfl (t_X12_copies_101_100 (d + 8) h) rfl (by omega) (by decide) (Nat.le_of_ble_eq_true rfl)) (fun M18 => ?_)
      refine s_step (g_iload_n (iRow iCX12_judged_2 12 rfl) rfl rfl) ?_
      refine s_ifn (g_if_ne (tgt := 117) (iRow iCX12_judged_2 13 rfl) (by decide)) (fun _ => ?_) (fun _ => ?_)
      · refine s_step (g_iload_n (iRow iCX12_judged_2 14 rfl) rfl rfl) ?_
        refine s_step (g_goto (tgt := 128) (iRow iCX12_judged_2 15 rfl) (by decide)) ?_
        exact s_reti (iRow iCX12_judged_2 22 rfl) rfl
      · refine s_step (g_iload_n (iRow iCX12_judged_2 16 rfl) rfl rfl) ?_
        refine s_step (g_iconst (iRow iCX12_judged_2 17 rfl) kc_1) ?_
        refine s_ifn (g_icmp_ne (tgt := 126) (iRow iCX12_judged_2 18 rfl) (by decide)) (fun _ => ?_) (fun _ => ?_)
        · refine s_step (g_iload_n (iRow iCX12_judged_2 19 rfl) rfl rfl) ?_
          refine s_step (g_goto (tgt := 128) (iRow iCX12_judged_2 20 rfl) (by decide)) ?_
          exact s_reti (iRow iCX12_judged_2 22 rfl) rfl
        · refine s_step (g_iload (iRow iCX12_judged_2 21 rfl) rfl) ?_
          exact s_reti (iRow iCX12_judged_2 22 rfl) rfl
  · refine s_step (g_bipush (iRow iCX12_judged_0 8 rfl) kb_m2) ?_
    exact s_reti (iRow iCX12_judged_0 9 rfl) rfl
abbrev YX12_weighed : mY := (RX12, "weighed", cX12_weighed, 4, (some .int), none)
set_option maxHeartbeats 400000 in
set_option maxRecDepth 20000 in
theorem t_X12_weighed {G : mg} {F : Nat} {a1 : Int32} {M : mm} {x : Int32} {M' : mm} (d : Nat) (h : m_X12_weighed F a1 M = some (x, M')) : CM G yX12_weighed cX12_weighed 4 (some .int) (d + 0) [vR 13 0, vI a1] M (some (vI x)) M' := by
  refine ct_i (ls := [some (vR 13 0), some (vI a1), none, none]) rfl rfl (Nat.le_of_ble_eq_true rfl) (fun Z => ?_) h
  show SW G (d + 0) YX12_weighed Z 0 [some (vR 13 0), some (vI a1), none, none] [] M _ _
  unfold m_X12_weighed
  refine s_step (g_iconst (iRow iCX12_weighed_0 0 rfl) kc_0) ?_
  refine s_step (g_istore_n (ls' := [some (vR 13 0), some (vI a1), some (vI (0 : Int32)), none]) (iRow iCX12_weighed_0 1 rfl) rfl (by decide) rfl) ?_
  refine s_step (g_iconst (iRow iCX12_weighed_0 2 rfl) kc_0) ?_
  refine s_step (g_istore_n (ls' := [some (vR 13 0), some (vI a1), some (vI (0 : Int32)), some (vI (0 : Int32))]) (iRow iCX12_weighed_0 3 rfl) rfl (by decide) rfl) ?_
  refine s_lp (fun z => [some (vR 13 0), some (vI a1), some (vI (z.1)), some (vI (z.2))]) (fun _ => M) (fun z => LM G (d + 0) YX12_weighed Z 38 [none, none, some (vI z), none] [] M) rfl rfl ?_ ?_
  · rintro ⟨x1, x2⟩
    show SW G (d + 0) YX12_weighed Z 4 [some (vR 13 0), some (vI a1), some (vI x1), some (vI x2)] [] M (b_X12_weighed_1c F a1 M x1 x2) _
    unfold b_X12_weighed_1c
    refine s_step (g_iload_n (iRow iCX12_weighed_0 4 rfl) rfl rfl) ?_
    refine s_step (g_bipush (iRow iCX12_weighed_0 5 rfl) kb_11) ?_
    refine s_if (g_icmp_ge (tgt := 38) (iRow iCX12_weighed_0 6 rfl) (by decide)) (fun _ => ?_) (fun _ => ?_)
    · refine s_step (g_keep [false, false, true, false] rfl) ?_
      exact s_end (fun h => h)
    · refine s_step (g_iload_n (iRow iCX12_weighed_0 7 rfl) rfl rfl) ?_
      refine s_step (g_iload_n (iRow iCX12_weighed_0 8 rfl) rfl rfl) ?_
      refine s_step (g_iload_n (iRow iCX12_weighed_0 9 rfl) rfl rfl) ?_
      refine s_step (g_ishr (iRow iCX12_weighed_0 10 rfl)) ?_
      refine s_step (g_iconst (iRow iCX12_weighed_0 11 rfl) kc_1) ?_
      refine s_step (g_iand (iRow iCX12_weighed_0 12 rfl)) ?_
      refine s_step (g_iconst (iRow iCX12_weighed_0 13 rfl) kc_1) ?_
      refine s_bd (fun z => LM G (d + 0) YX12_weighed Z 30 [some (vR 13 0), some (vI a1), none, some (vI x2)] [vI z, vI x1] M) ?_ ?_
      · refine s_ifn (g_icmp_ne (tgt := 29) (iRow iCX12_weighed_0 14 rfl) (by decide)) (fun _ => ?_) (fun _ => ?_)
        · refine s_step (g_aload_n (iRow iCX12_weighed_0 15 rfl) rfl rfl) ?_
          refine s_step (g_getR (iRow iCX12_weighed_0 16 rfl) f12_47 ko_13 (r_13_21 _ _)) ?_
          refine s_step (g_iload_n (iRow iCX12_weighed_0 17 rfl) rfl rfl) ?_
          refine s_gi (fun h => g_iald (iRow iCX12_weighed_0 18 rfl) kn_75 ka_75 h) ?_
          refine s_step (g_goto (tgt := 30) (iRow iCX12_weighed_0 19 rfl) (by decide)) ?_
          refine s_step (g_keep [true, true, false, true] rfl) ?_
          exact s_end (fun h => h)
        · refine s_step (g_iconst (iRow iCX12_weighed_0 20 rfl) kc_0) ?_
          refine s_step (g_keep [true, true, false, true] rfl) ?_
          exact s_end (fun h => h)
      · rintro x3
        show SW G (d + 0) YX12_weighed Z 30 [some (vR 13 0), some (vI a1), none, some (vI x2)] [vI x3, vI x1] M _ _
        try dsimp only
        refine s_step (g_iadd (iRow iCX12_weighed_0 21 rfl)) ?_
        refine s_nmI (fun x4 => ?_)
        refine s_step (g_istore_n (ls' := [some (vR 13 0), some (vI a1), some (vI x4), some (vI x2)]) (iRow iCX12_weighed_0 22 rfl) rfl (by decide) rfl) ?_
        refine s_step (g_iincc (c := 1) (ls' := [some (vR 13 0), some (vI a1), some (vI x4), some (vI (x2 + (1 : Int32)))]) (iRow iCX12_weighed_0 23 rfl) rfl kc_1 (by decide) rfl) ?_
        refine s_step (g_goto (tgt := 4) (iRow iCX12_weighed_1 0 rfl) (by decide)) ?_
        exact s_end (fun h => h)
  · rintro x5
    show SW G (d + 0) YX12_weighed Z 38 [none, none, some (vI x5), none] [] M _ _
    try dsimp only
    refine s_step (g_iload_n (iRow iCX12_weighed_1 1 rfl) rfl rfl) ?_
    exact s_reti (iRow iCX12_weighed_1 2 rfl) rfl
abbrev YX12_bears : mY := (RX12, "bears", cX12_bears, 6, (some .int), none)
set_option maxHeartbeats 400000 in
set_option maxRecDepth 20000 in
theorem t_X12_bears {G : mg} {F : Nat} {M : mm} {x : Int32} {M' : mm} (d : Nat) (h : m_X12_bears F M = some (x, M')) : CM G yX12_bears cX12_bears 6 (some .int) (d + 5) [vR 13 0] M (some (vI x)) M' := by
  refine ct_i (ls := [some (vR 13 0), none, none, none, none, none]) rfl rfl (Nat.le_of_ble_eq_true rfl) (fun Z => ?_) h
  show SW G (d + 5) YX12_bears Z 0 [some (vR 13 0), none, none, none, none, none] [] M _ _
  unfold m_X12_bears
  refine s_step (g_aload_n (iRow iCX12_bears_0 0 rfl) rfl rfl) ?_
  refine s_step (g_iconst (iRow iCX12_bears_0 1 rfl) kc_0) ?_
  refine s_step (g_putI (iRow iCX12_bears_0 2 rfl) f12_157 (Or.inl rfl) ko_13) ?_
  refine s_nmM (fun M1 => ?_)
  refine s_step (g_aload_n (iRow iCX12_bears_0 3 rfl) rfl rfl) ?_
  refine s_step (g_aload_n (iRow iCX12_bears_0 4 rfl) rfl rfl) ?_
  refine s_step (g_getR (iRow iCX12_bears_0 5 rfl) f12_123 ko_13 (r_13_49 _ _)) ?_
  refine s_step (g_iconst (iRow iCX12_bears_0 6 rfl) kc_1) ?_
  refine s_gi (fun h => g_iald (iRow iCX12_bears_0 7 rfl) kn_100 ka_100 h) ?_
  refine s_cv (stA := []) (fun _ h => h_V (As := [_]) (iRow iCX12_bears_0 8 rfl) l12_410 iX12_laysStrengths ko_13 rfl rfl rfl rfl (t_X12_laysStrengths (d + 0) h) rfl (by omega) (by decide) (Nat.le_of_ble_eq_true rfl)) (fun M2 => ?_)
  refine s_step (g_aload_n (iRow iCX12_bears_0 9 rfl) rfl rfl) ?_
  refine s_step (g_aload_n (iRow iCX12_bears_0 10 rfl) rfl rfl) ?_
  refine s_step (g_getR (iRow iCX12_bears_0 11 rfl) f12_123 ko_13 (r_13_49 _ _)) ?_
  refine s_step (g_iconst (iRow iCX12_bears_0 12 rfl) kc_3) ?_
  refine s_gi (fun h => g_iald (iRow iCX12_bears_0 13 rfl) kn_100 ka_100 h) ?_
  refine s_cv (stA := []) (fun _ h => h_V (As := [_]) (iRow iCX12_bears_0 14 rfl) l12_407 iX12_laysRests ko_13 rfl rfl rfl rfl (t_X12_laysRests (d + 4) h) rfl (by omega) (by decide) (Nat.le_of_ble_eq_true rfl)) (fun M3 => ?_)
  refine s_step (g_aload_n (iRow iCX12_bears_0 15 rfl) rfl rfl) ?_
  refine s_step (g_aload_n (iRow iCX12_bears_0 16 rfl) rfl rfl) ?_
  refine s_step (g_getR (iRow iCX12_bears_0 17 rfl) f12_123 ko_13 (r_13_49 _ _)) ?_
  refine s_step (g_iconst (iRow iCX12_bears_0 18 rfl) kc_3) ?_
  refine s_gi (fun h => g_iald (iRow iCX12_bears_0 19 rfl) kn_100 ka_100 h) ?_
  refine s_cl (sf := fun x => vI x :: []) (fun _ _ h => h_V (As := [_]) (iRow iCX12_bears_0 20 rfl) l12_453 iX12_weighed ko_13 rfl rfl rfl rfl (t_X12_weighed (d + 4) h) rfl (by omega) (by decide) (Nat.le_of_ble_eq_true rfl)) (fun x5 M4 => ?_)
  refine s_step (g_istore_n (ls' := [some (vR 13 0), some (vI x5), none, none, none, none]) (iRow iCX12_bears_0 21 rfl) rfl (by decide) rfl) ?_
  refine s_step (g_iload_n (iRow iCX12_bears_0 22 rfl) rfl rfl) ?_
  refine s_step (g_istore_n (ls' := [some (vR 13 0), some (vI x5), some (vI x5), none, none, none]) (iRow iCX12_bears_0 23 rfl) rfl (by decide) rfl) ?_
  refine s_step (g_aload_n (iRow iCX12_bears_1 0 rfl) rfl rfl) ?_
  refine s_step (g_getR (iRow iCX12_bears_1 1 rfl) f12_123 ko_13 (r_13_49 _ _)) ?_
  refine s_step (g_iconst (iRow iCX12_bears_1 2 rfl) kc_3) ?_
  refine s_gi (fun h => g_iald (iRow iCX12_bears_1 3 rfl) kn_100 ka_100 h) ?_
  refine s_nmI (fun x6 => ?_)
  refine s_step (g_istore_n (ls' := [some (vR 13 0), some (vI x5), some (vI x5), some (vI x6), none, none]) (iRow iCX12_bears_1 4 rfl) rfl (by decide) rfl) ?_
  refine s_lp (fun z => [some (vR 13 0), some (vI x5), some (vI (z.1)), some (vI (z.2.1)), none, none]) (fun z => z.2.2) (fun z => LM G (d + 5) YX12_bears Z 128 [none, none, some (vI (z.1)), none, none, none] [] z.2) rfl rfl ?_ ?_
  · rintro ⟨x7, x8, M9⟩
    show SW G (d + 5) YX12_bears Z 45 [some (vR 13 0), some (vI x5), some (vI x7), some (vI x8), none, none] [] M9 (b_X12_bears_1c F x5 x7 x8 M9) _
    unfold b_X12_bears_1c
    refine s_step (g_iload_n (iRow iCX12_bears_1 5 rfl) rfl rfl) ?_
    refine s_if (g_if_le (tgt := 128) (iRow iCX12_bears_1 6 rfl) (by decide)) (fun _ => ?_) (fun _ => ?_)
    · refine s_step (g_keep [false, false, true, false, false, false] rfl) ?_
      exact s_end (fun h => h)
    · refine s_step (g_iconst (iRow iCX12_bears_1 7 rfl) kc_0) ?_
      refine s_step (g_istore (ls' := [some (vR 13 0), some (vI x5), some (vI x7), some (vI x8), some (vI (0 : Int32)), none]) (iRow iCX12_bears_1 8 rfl) (by decide) rfl) ?_
      refine s_step (g_iconst (iRow iCX12_bears_1 9 rfl) kc_0) ?_
      refine s_step (g_istore (ls' := [some (vR 13 0), some (vI x5), some (vI x7), some (vI x8), some (vI (0 : Int32)), some (vI (0 : Int32))]) (iRow iCX12_bears_1 10 rfl) (by decide) rfl) ?_
      refine s_lp (fun z => [some (vR 13 0), some (vI x5), some (vI x7), some (vI x8), some (vI (z.1)), some (vI (z.2))]) (fun _ => M9) (fun z => LM G (d + 5) YX12_bears Z 94 [some (vR 13 0), some (vI x5), some (vI x7), some (vI x8), some (vI z), none] [] M9) rfl rfl ?_ ?_
      · rintro ⟨x10, x11⟩
        show SW G (d + 5) YX12_bears Z 55 [some (vR 13 0), some (vI x5), some (vI x7), some (vI x8), some (vI x10), some (vI x11)] [] M9 (b_X12_bears_2c F x8 M9 x10 x11) _
        unfold b_X12_bears_2c
        refine s_step (g_iload (iRow iCX12_bears_1 11 rfl) rfl) ?_
        refine s_step (g_bipush (iRow iCX12_bears_1 12 rfl) kb_10) ?_
        refine s_if (g_icmp_ge (tgt := 94) (iRow iCX12_bears_1 13 rfl) (by decide)) (fun _ => ?_) (fun _ => ?_)
        · refine s_step (g_keep [true, true, true, true, true, false] rfl) ?_
          exact s_end (fun h => h)
        · refine s_step (g_iload (iRow iCX12_bears_1 14 rfl) rfl) ?_
          refine s_step (g_iload_n (iRow iCX12_bears_1 15 rfl) rfl rfl) ?_
          refine s_step (g_iload (iRow iCX12_bears_1 16 rfl) rfl) ?_
          refine s_step (g_ishr (iRow iCX12_bears_1 17 rfl)) ?_
          refine s_step (g_iconst (iRow iCX12_bears_1 18 rfl) kc_1) ?_
          refine s_step (g_iand (iRow iCX12_bears_1 19 rfl)) ?_
          refine s_step (g_iconst (iRow iCX12_bears_1 20 rfl) kc_1) ?_
          refine s_bd (fun z => LM G (d + 5) YX12_bears Z 85 [some (vR 13 0), some (vI x5), some (vI x7), some (vI x8), none, some (vI x11)] [vI z, vI x10] M9) ?_ ?_
          · refine s_ifn (g_icmp_ne (tgt := 84) (iRow iCX12_bears_1 21 rfl) (by decide)) (fun _ => ?_) (fun _ => ?_)
            · refine s_step (g_aload_n (iRow iCX12_bears_1 22 rfl) rfl rfl) ?_
              refine s_step (g_getR (iRow iCX12_bears_1 23 rfl) f12_141 ko_13 (r_13_56 _ _)) ?_
              refine s_step (g_iload (iRow iCX12_bears_2 0 rfl) rfl) ?_
              refine s_gi (fun h => g_iald (iRow iCX12_bears_2 1 rfl) kn_106 ka_106 h) ?_
              refine s_step (g_goto (tgt := 85) (iRow iCX12_bears_2 2 rfl) (by decide)) ?_
              refine s_step (g_keep [true, true, true, true, false, true] rfl) ?_
              exact s_end (fun h => h)
            · refine s_step (g_iconst (iRow iCX12_bears_2 3 rfl) kc_0) ?_
              refine s_step (g_keep [true, true, true, true, false, true] rfl) ?_
              exact s_end (fun h => h)
          · rintro x12
            show SW G (d + 5) YX12_bears Z 85 [some (vR 13 0), some (vI x5), some (vI x7), some (vI x8), none, some (vI x11)] [vI x12, vI x10] M9 _ _
            try dsimp only
            refine s_step (g_ior (iRow iCX12_bears_2 4 rfl)) ?_
            refine s_nmI (fun x13 => ?_)
            refine s_step (g_istore (ls' := [some (vR 13 0), some (vI x5), some (vI x7), some (vI x8), some (vI x13), some (vI x11)]) (iRow iCX12_bears_2 5 rfl) (by decide) rfl) ?_
            refine s_step (g_iincc (c := 1) (ls' := [some (vR 13 0), some (vI x5), some (vI x7), some (vI x8), some (vI x13), some (vI (x11 + (1 : Int32)))]) (iRow iCX12_bears_2 6 rfl) rfl kc_1 (by decide) rfl) ?_
            refine s_step (g_goto (tgt := 55) (iRow iCX12_bears_2 7 rfl) (by decide)) ?_
            exact s_end (fun h => h)
      · rintro x14
        show SW G (d + 5) YX12_bears Z 94 [some (vR 13 0), some (vI x5), some (vI x7), some (vI x8), some (vI x14), none] [] M9 _ _
        try dsimp only
        refine s_step (g_iload_n (iRow iCX12_bears_2 8 rfl) rfl rfl) ?_
        refine s_step (g_iload_n (iRow iCX12_bears_2 9 rfl) rfl rfl) ?_
        refine s_step (g_aload_n (iRow iCX12_bears_2 10 rfl) rfl rfl) ?_
        refine s_step (g_iload_n (iRow iCX12_bears_2 11 rfl) rfl rfl) ?_
        refine s_cl (sf := fun x => vI x :: [vI x5, vI x7]) (fun _ _ h => h_V (As := [_]) (iRow iCX12_bears_2 12 rfl) l12_453 iX12_weighed ko_13 rfl rfl rfl rfl (t_X12_weighed (d + 4) h) rfl (by omega) (by decide) (Nat.le_of_ble_eq_true rfl)) (fun x16 M15 => ?_)
        refine s_step (g_isub (iRow iCX12_bears_2 13 rfl)) ?_
        refine s_step (g_aload_n (iRow iCX12_bears_2 14 rfl) rfl rfl) ?_
        refine s_step (g_getR (iRow iCX12_bears_2 15 rfl) f12_138 ko_13 (r_13_55 _ _)) ?_
        refine s_step (g_iload (iRow iCX12_bears_2 16 rfl) rfl) ?_
        refine s_gi (fun h => g_iald (iRow iCX12_bears_2 17 rfl) kn_105 ka_105 h) ?_
        refine s_step (g_iadd (iRow iCX12_bears_2 18 rfl)) ?_
        refine s_step (g_min (iRow iCX12_bears_2 19 rfl) w12_456 (by omega) (Nat.le_of_ble_eq_true rfl)) ?_
        refine s_nmI (fun x17 => ?_)
        refine s_step (g_istore_n (ls' := [some (vR 13 0), some (vI x5), some (vI x17), some (vI x8), some (vI x14), none]) (iRow iCX12_bears_2 20 rfl) rfl (by decide) rfl) ?_
        refine s_step (g_iload_n (iRow iCX12_bears_2 21 rfl) rfl rfl) ?_
        refine s_step (g_iconst (iRow iCX12_bears_2 22 rfl) kc_1) ?_
        refine s_step (g_isub (iRow iCX12_bears_2 23 rfl)) ?_
        refine s_step (g_aload_n (iRow iCX12_bears_3 0 rfl) rfl rfl) ?_
        refine s_step (g_getR (iRow iCX12_bears_3 1 rfl) f12_123 ko_13 (r_13_49 _ _)) ?_
        refine s_step (g_iconst (iRow iCX12_bears_3 2 rfl) kc_3) ?_
        refine s_gi (fun h => g_iald (iRow iCX12_bears_3 3 rfl) kn_100 ka_100 h) ?_
        refine s_step (g_iand (iRow iCX12_bears_3 4 rfl)) ?_
        refine s_nmI (fun x18 => ?_)
        refine s_step (g_istore_n (ls' := [some (vR 13 0), some (vI x5), some (vI x17), some (vI x18), some (vI x14), none]) (iRow iCX12_bears_3 5 rfl) rfl (by decide) rfl) ?_
        refine s_step (g_goto (tgt := 45) (iRow iCX12_bears_3 6 rfl) (by decide)) ?_
        refine s_step (g_keep [true, true, true, true, false, false] rfl) ?_
        exact s_end (fun h => h)
  · rintro ⟨x19, M20⟩
    show SW G (d + 5) YX12_bears Z 128 [none, none, some (vI x19), none, none, none] [] M20 _ _
    try dsimp only
    refine s_step (g_iload_n (iRow iCX12_bears_3 7 rfl) rfl rfl) ?_
    exact s_reti (iRow iCX12_bears_3 8 rfl) rfl
abbrev YX12_loose : mY := (RX12, "loose", cX12_loose, 3, (some .int), none)
set_option maxHeartbeats 400000 in
set_option maxRecDepth 20000 in
theorem t_X12_loose {G : mg} {F : Nat} {M : mm} {x : Int32} {M' : mm} (d : Nat) (h : m_X12_loose F M = some (x, M')) : CM G yX12_loose cX12_loose 3 (some .int) (d + 1) [vR 13 0] M (some (vI x)) M' := by
  refine ct_i (ls := [some (vR 13 0), none, none]) rfl rfl (Nat.le_of_ble_eq_true rfl) (fun Z => ?_) h
  show SW G (d + 1) YX12_loose Z 0 [some (vR 13 0), none, none] [] M _ _
  unfold m_X12_loose
  refine s_step (g_iconst (iRow iCX12_loose_0 0 rfl) kc_0) ?_
  refine s_step (g_istore_n (ls' := [some (vR 13 0), some (vI (0 : Int32)), none]) (iRow iCX12_loose_0 1 rfl) rfl (by decide) rfl) ?_
  refine s_step (g_iconst (iRow iCX12_loose_0 2 rfl) kc_0) ?_
  refine s_step (g_istore_n (ls' := [some (vR 13 0), some (vI (0 : Int32)), some (vI (0 : Int32))]) (iRow iCX12_loose_0 3 rfl) rfl (by decide) rfl) ?_
  refine s_lp (fun z => [some (vR 13 0), some (vI (z.1)), some (vI (z.2.1))]) (fun z => z.2.2) (fun z => LM G (d + 1) YX12_loose Z 38 [none, some (vI (z.1)), none] [] z.2) rfl rfl ?_ ?_
  · rintro ⟨x1, x2, M3⟩
    show SW G (d + 1) YX12_loose Z 4 [some (vR 13 0), some (vI x1), some (vI x2)] [] M3 (b_X12_loose_1c F x1 x2 M3) _
    unfold b_X12_loose_1c
    refine s_step (g_iload_n (iRow iCX12_loose_0 4 rfl) rfl rfl) ?_
    refine s_step (g_aload_n (iRow iCX12_loose_0 5 rfl) rfl rfl) ?_
    refine s_step (g_getR (iRow iCX12_loose_0 6 rfl) f12_13 ko_13 (r_13_10 _ _)) ?_
    refine s_step (g_iconst (iRow iCX12_loose_0 7 rfl) kc_1) ?_
    refine s_gi (fun h => g_iald (iRow iCX12_loose_0 8 rfl) kn_64 ka_64 h) ?_
    refine s_if (g_icmp_ge (tgt := 38) (iRow iCX12_loose_0 9 rfl) (by decide)) (fun _ => ?_) (fun _ => ?_)
    · refine s_step (g_keep [false, true, false] rfl) ?_
      exact s_end (fun h => h)
    · refine s_step (g_iload_n (iRow iCX12_loose_0 10 rfl) rfl rfl) ?_
      refine s_step (g_aload_n (iRow iCX12_loose_0 11 rfl) rfl rfl) ?_
      refine s_step (g_iload_n (iRow iCX12_loose_0 12 rfl) rfl rfl) ?_
      refine s_cb (sf := fun b => vI (bI b) :: [vI x1]) (fun _ _ h => h_V (As := [_]) (iRow iCX12_loose_0 13 rfl) l12_432 iX12_canBreak ko_13 rfl rfl rfl rfl (t_X12_canBreak (d + 0) h) rfl (by omega) (by decide) (Nat.le_of_ble_eq_true rfl)) (fun b5 M4 => ?_)
      refine s_bd (fun z => LM G (d + 1) YX12_loose Z 30 [some (vR 13 0), none, some (vI x2)] [vI z, vI x1] M4) ?_ ?_
      · refine s_ifeqb (g_if_eq (tgt := 29) (iRow iCX12_loose_0 14 rfl) (by decide)) (fun _ => ?_) (fun _ => ?_)
        · refine s_step (g_iconst (iRow iCX12_loose_0 15 rfl) kc_1) ?_
          refine s_step (g_iload_n (iRow iCX12_loose_0 16 rfl) rfl rfl) ?_
          refine s_step (g_ishl (iRow iCX12_loose_0 17 rfl)) ?_
          refine s_step (g_goto (tgt := 30) (iRow iCX12_loose_0 18 rfl) (by decide)) ?_
          refine s_step (g_keep [true, false, true] rfl) ?_
          exact s_end (fun h => h)
        · refine s_step (g_iconst (iRow iCX12_loose_0 19 rfl) kc_0) ?_
          refine s_step (g_keep [true, false, true] rfl) ?_
          exact s_end (fun h => h)
      · rintro x6
        show SW G (d + 1) YX12_loose Z 30 [some (vR 13 0), none, some (vI x2)] [vI x6, vI x1] M4 _ _
        try dsimp only
        refine s_step (g_ior (iRow iCX12_loose_0 20 rfl)) ?_
        refine s_nmI (fun x7 => ?_)
        refine s_step (g_istore_n (ls' := [some (vR 13 0), some (vI x7), some (vI x2)]) (iRow iCX12_loose_0 21 rfl) rfl (by decide) rfl) ?_
        refine s_step (g_iincc (c := 1) (ls' := [some (vR 13 0), some (vI x7), some (vI (x2 + (1 : Int32)))]) (iRow iCX12_loose_0 22 rfl) rfl kc_1 (by decide) rfl) ?_
        refine s_step (g_goto (tgt := 4) (iRow iCX12_loose_0 23 rfl) (by decide)) ?_
        exact s_end (fun h => h)
  · rintro ⟨x8, M9⟩
    show SW G (d + 1) YX12_loose Z 38 [none, some (vI x8), none] [] M9 _ _
    try dsimp only
    refine s_step (g_iload_n (iRow iCX12_loose_1 0 rfl) rfl rfl) ?_
    exact s_reti (iRow iCX12_loose_1 1 rfl) rfl
abbrev YX12_upIf : mY := (RX12, "upIf", cX12_upIf, 2, (some .int), none)
set_option maxHeartbeats 400000 in
set_option maxRecDepth 20000 in
theorem t_X12_upIf {G : mg} {F : Nat} {a1 : Int32} {M : mm} {x : Int32} {M' : mm} (d : Nat) (h : m_X12_upIf F a1 M = some (x, M')) : CM G yX12_upIf cX12_upIf 2 (some .int) (d + 6) [vR 13 0, vI a1] M (some (vI x)) M' := by
  refine ct_i (ls := [some (vR 13 0), some (vI a1)]) rfl rfl (Nat.le_of_ble_eq_true rfl) (fun Z => ?_) h
  show SW G (d + 6) YX12_upIf Z 0 [some (vR 13 0), some (vI a1)] [] M _ _
  unfold m_X12_upIf
  refine s_step (g_aload_n (iRow iCX12_upIf_0 0 rfl) rfl rfl) ?_
  refine s_step (g_aload_n (iRow iCX12_upIf_0 1 rfl) rfl rfl) ?_
  refine s_step (g_getR (iRow iCX12_upIf_0 2 rfl) f12_123 ko_13 (r_13_49 _ _)) ?_
  refine s_step (g_iconst (iRow iCX12_upIf_0 3 rfl) kc_3) ?_
  refine s_gi (fun h => g_iald (iRow iCX12_upIf_0 4 rfl) kn_100 ka_100 h) ?_
  refine s_step (g_aload_n (iRow iCX12_upIf_0 5 rfl) rfl rfl) ?_
  refine s_step (g_getR (iRow iCX12_upIf_0 6 rfl) f12_123 ko_13 (r_13_49 _ _)) ?_
  refine s_step (g_iconst (iRow iCX12_upIf_0 7 rfl) kc_1) ?_
  refine s_gi (fun h => g_iald (iRow iCX12_upIf_0 8 rfl) kn_100 ka_100 h) ?_
  refine s_step (g_iload_n (iRow iCX12_upIf_0 9 rfl) rfl rfl) ?_
  refine s_step (g_aload_n (iRow iCX12_upIf_0 10 rfl) rfl rfl) ?_
  refine s_cl (sf := fun x => vI x :: [vI a1, vI (M.1 100 0 (Int32.toNatClampNeg (1 : Int32))), vI (M.1 100 0 (Int32.toNatClampNeg (3 : Int32))), vR 13 0]) (fun _ _ h => h_V (As := []) (iRow iCX12_upIf_0 11 rfl) l12_461 iX12_loose ko_13 rfl rfl rfl rfl (t_X12_loose (d + 4) h) rfl (by omega) (by decide) (Nat.le_of_ble_eq_true rfl)) (fun x2 M1 => ?_)
  refine s_step (g_iand (iRow iCX12_upIf_0 12 rfl)) ?_
  refine s_step (g_ior (iRow iCX12_upIf_0 13 rfl)) ?_
  refine s_cl (sf := fun x => vI x :: []) (fun _ _ h => h_V (As := [_, _]) (iRow iCX12_upIf_0 14 rfl) l12_416 iX12_fallen ko_13 rfl rfl rfl rfl (t_X12_fallen (d + 0) h) rfl (by omega) (by decide) (Nat.le_of_ble_eq_true rfl)) (fun x4 M3 => ?_)
  exact s_reti (iRow iCX12_upIf_0 15 rfl) rfl
abbrev YX12_allOaths : mY := (RX12, "allOaths", cX12_allOaths, 1, (some .int), none)
set_option maxHeartbeats 400000 in
set_option maxRecDepth 20000 in
theorem t_X12_allOaths {G : mg} {F : Nat} {M : mm} {x : Int32} {M' : mm} (d : Nat) (h : m_X12_allOaths F M = some (x, M')) : CM G yX12_allOaths cX12_allOaths 1 (some .int) (d + 0) [vR 13 0] M (some (vI x)) M' := by
  refine ct_i (ls := [some (vR 13 0)]) rfl rfl (Nat.le_of_ble_eq_true rfl) (fun Z => ?_) h
  show SW G (d + 0) YX12_allOaths Z 0 [some (vR 13 0)] [] M _ _
  unfold m_X12_allOaths
  refine s_step (g_iconst (iRow iCX12_allOaths_0 0 rfl) kc_1) ?_
  refine s_step (g_aload_n (iRow iCX12_allOaths_0 1 rfl) rfl rfl) ?_
  refine s_step (g_getR (iRow iCX12_allOaths_0 2 rfl) f12_13 ko_13 (r_13_10 _ _)) ?_
  refine s_step (g_iconst (iRow iCX12_allOaths_0 3 rfl) kc_1) ?_
  refine s_gi (fun h => g_iald (iRow iCX12_allOaths_0 4 rfl) kn_64 ka_64 h) ?_
  refine s_step (g_ishl (iRow iCX12_allOaths_0 5 rfl)) ?_
  refine s_step (g_iconst (iRow iCX12_allOaths_0 6 rfl) kc_1) ?_
  refine s_step (g_isub (iRow iCX12_allOaths_0 7 rfl)) ?_
  exact s_reti (iRow iCX12_allOaths_0 8 rfl) rfl
abbrev YX12_stands : mY := (RX12, "stands", cX12_stands, 2, (some .int), none)
set_option maxHeartbeats 400000 in
set_option maxRecDepth 20000 in
theorem t_X12_stands {G : mg} {F : Nat} {a1 : Int32} {M : mm} {x : Int32} {M' : mm} (d : Nat) (h : m_X12_stands F a1 M = some (x, M')) : CM G yX12_stands cX12_stands 2 (some .int) (d + 7) [vR 13 0, vI a1] M (some (vI x)) M' := by
  refine ct_i (ls := [some (vR 13 0), some (vI a1)]) rfl rfl (Nat.le_of_ble_eq_true rfl) (fun Z => ?_) h
  show SW G (d + 7) YX12_stands Z 0 [some (vR 13 0), some (vI a1)] [] M _ _
  unfold m_X12_stands
  refine s_step (g_aload_n (iRow iCX12_stands_0 0 rfl) rfl rfl) ?_
  refine s_step (g_iconst (iRow iCX12_stands_0 1 rfl) kc_0) ?_
  refine s_step (g_putI (iRow iCX12_stands_0 2 rfl) f12_157 (Or.inl rfl) ko_13) ?_
  refine s_nmM (fun M1 => ?_)
  refine s_step (g_iload_n (iRow iCX12_stands_0 3 rfl) rfl rfl) ?_
  refine s_if (g_if_lt (tgt := 17) (iRow iCX12_stands_0 4 rfl) (by decide)) (fun _ => ?_) (fun _ => ?_)
  · refine s_step (g_iconst (iRow iCX12_stands_0 9 rfl) kc_m1) ?_
    refine s_step (g_goto (tgt := 26) (iRow iCX12_stands_0 10 rfl) (by decide)) ?_
    exact s_reti (iRow iCX12_stands_0 14 rfl) rfl
  · refine s_step (g_iload_n (iRow iCX12_stands_0 5 rfl) rfl rfl) ?_
    refine s_step (g_aload_n (iRow iCX12_stands_0 6 rfl) rfl rfl) ?_
    refine s_cl (sf := fun x => vI x :: [vI a1]) (fun _ _ h => h_V (As := []) (iRow iCX12_stands_0 7 rfl) l12_464 iX12_allOaths ko_13 rfl rfl rfl rfl (t_X12_allOaths (d + 6) h) rfl (by omega) (by decide) (Nat.le_of_ble_eq_true rfl)) (fun x3 M2 => ?_)
    refine s_if (g_icmp_le (tgt := 21) (iRow iCX12_stands_0 8 rfl) (by decide)) (fun _ => ?_) (fun _ => ?_)
    · refine s_step (g_aload_n (iRow iCX12_stands_0 11 rfl) rfl rfl) ?_
      refine s_step (g_iload_n (iRow iCX12_stands_0 12 rfl) rfl rfl) ?_
      refine s_cl (sf := fun x => vI x :: []) (fun _ _ h => h_V (As := [_]) (iRow iCX12_stands_0 13 rfl) l12_467 iX12_upIf ko_13 rfl rfl rfl rfl (t_X12_upIf (d + 0) h) rfl (by omega) (by decide) (Nat.le_of_ble_eq_true rfl)) (fun x5 M4 => ?_)
      exact s_reti (iRow iCX12_stands_0 14 rfl) rfl
    · refine s_step (g_iconst (iRow iCX12_stands_0 9 rfl) kc_m1) ?_
      refine s_step (g_goto (tgt := 26) (iRow iCX12_stands_0 10 rfl) (by decide)) ?_
      exact s_reti (iRow iCX12_stands_0 14 rfl) rfl
abbrev YX12_weakest : mY := (RX12, "weakest", cX12_weakest, 4, (some .int), none)
set_option maxHeartbeats 400000 in
set_option maxRecDepth 20000 in
theorem t_X12_weakest {G : mg} {F : Nat} {a1 : Int32} {M : mm} {x : Int32} {M' : mm} (d : Nat) (h : m_X12_weakest F a1 M = some (x, M')) : CM G yX12_weakest cX12_weakest 4 (some .int) (d + 7) [vR 13 0, vI a1] M (some (vI x)) M' := by
  refine ct_i (ls := [some (vR 13 0), some (vI a1), none, none]) rfl rfl (Nat.le_of_ble_eq_true rfl) (fun Z => ?_) h
  show SW G (d + 7) YX12_weakest Z 0 [some (vR 13 0), some (vI a1), none, none] [] M _ _
  unfold m_X12_weakest
  refine s_step (g_aload_n (iRow iCX12_weakest_0 0 rfl) rfl rfl) ?_
  refine s_step (g_iconst (iRow iCX12_weakest_0 1 rfl) kc_0) ?_
  refine s_step (g_putI (iRow iCX12_weakest_0 2 rfl) f12_157 (Or.inl rfl) ko_13) ?_
  refine s_nmM (fun M1 => ?_)
  refine s_step (g_aload_n (iRow iCX12_weakest_0 3 rfl) rfl rfl) ?_
  refine s_step (g_iload_n (iRow iCX12_weakest_0 4 rfl) rfl rfl) ?_
  refine s_cb (sf := fun b => vI (bI b) :: []) (fun _ _ h => h_V (As := [_]) (iRow iCX12_weakest_0 5 rfl) l12_425 iX12_isStone ko_13 rfl rfl rfl rfl (t_X12_isStone (d + 6) h) rfl (by omega) (by decide) (Nat.le_of_ble_eq_true rfl)) (fun b3 M2 => ?_)
  refine s_ifeqb (g_if_eq (tgt := 26) (iRow iCX12_weakest_0 6 rfl) (by decide)) (fun _ => ?_) (fun _ => ?_)
  · refine s_step (g_aload_n (iRow iCX12_weakest_0 7 rfl) rfl rfl) ?_
    refine s_step (g_getR (iRow iCX12_weakest_0 8 rfl) f12_123 ko_13 (r_13_49 _ _)) ?_
    refine s_step (g_iconst (iRow iCX12_weakest_0 9 rfl) kc_3) ?_
    refine s_gi (fun h => g_iald (iRow iCX12_weakest_0 10 rfl) kn_100 ka_100 h) ?_
    refine s_step (g_iload_n (iRow iCX12_weakest_0 11 rfl) rfl rfl) ?_
    refine s_step (g_ishr (iRow iCX12_weakest_0 12 rfl)) ?_
    refine s_step (g_iconst (iRow iCX12_weakest_0 13 rfl) kc_1) ?_
    refine s_step (g_iand (iRow iCX12_weakest_0 14 rfl)) ?_
    refine s_ifn (g_if_ne (tgt := 28) (iRow iCX12_weakest_0 15 rfl) (by decide)) (fun _ => ?_) (fun _ => ?_)
    · refine s_step (g_iconst (iRow iCX12_weakest_0 16 rfl) kc_m1) ?_
      exact s_reti (iRow iCX12_weakest_0 17 rfl) rfl
    · refine s_step (g_iconst (iRow iCX12_weakest_0 18 rfl) kc_m1) ?_
      refine s_step (g_istore_n (ls' := [some (vR 13 0), some (vI a1), some (vI (-1 : Int32)), none]) (iRow iCX12_weakest_0 19 rfl) rfl (by decide) rfl) ?_
      refine s_step (g_iconst (iRow iCX12_weakest_0 20 rfl) kc_0) ?_
      refine s_step (g_istore_n (ls' := [some (vR 13 0), some (vI a1), some (vI (-1 : Int32)), some (vI (0 : Int32))]) (iRow iCX12_weakest_0 21 rfl) rfl (by decide) rfl) ?_
      refine s_lp (fun z => [some (vR 13 0), some (vI a1), some (vI (z.1)), some (vI (z.2.1))]) (fun z => z.2.2) (fun z => LM G (d + 7) YX12_weakest Z 89 [none, none, some (vI (z.1)), none] [] z.2) rfl rfl ?_ ?_
      · rintro ⟨x4, x5, M6⟩
        show SW G (d + 7) YX12_weakest Z 32 [some (vR 13 0), some (vI a1), some (vI x4), some (vI x5)] [] M6 (b_X12_weakest_1c F a1 x4 x5 M6) _
        unfold b_X12_weakest_1c
        refine s_step (g_iload_n (iRow iCX12_weakest_0 22 rfl) rfl rfl) ?_
        refine s_step (g_aload_n (iRow iCX12_weakest_0 23 rfl) rfl rfl) ?_
        refine s_cl (sf := fun x => vI x :: [vI x5]) (fun _ _ h => h_V (As := []) (iRow iCX12_weakest_1 0 rfl) l12_464 iX12_allOaths ko_13 rfl rfl rfl rfl (t_X12_allOaths (d + 6) h) rfl (by omega) (by decide) (Nat.le_of_ble_eq_true rfl)) (fun x8 M7 => ?_)
        refine s_if (g_icmp_gt (tgt := 89) (iRow iCX12_weakest_1 1 rfl) (by decide)) (fun _ => ?_) (fun _ => ?_)
        · refine s_step (g_keep [false, false, true, false] rfl) ?_
          exact s_end (fun h => h)
        · refine s_step (g_iload_n (iRow iCX12_weakest_1 2 rfl) rfl rfl) ?_
          refine s_step (g_aload_n (iRow iCX12_weakest_1 3 rfl) rfl rfl) ?_
          refine s_step (g_getR (iRow iCX12_weakest_1 4 rfl) f12_123 ko_13 (r_13_49 _ _)) ?_
          refine s_step (g_iconst (iRow iCX12_weakest_1 5 rfl) kc_1) ?_
          refine s_gi (fun h => g_iald (iRow iCX12_weakest_1 6 rfl) kn_100 ka_100 h) ?_
          refine s_step (g_iand (iRow iCX12_weakest_1 7 rfl)) ?_
          refine s_bd (fun z => LM G (d + 7) YX12_weakest Z 83 [some (vR 13 0), some (vI a1), some (vI (z.1)), some (vI x5)] [] z.2) ?_ ?_
          · refine s_ifn (g_if_ne (tgt := 83) (iRow iCX12_weakest_1 8 rfl) (by decide)) (fun _ => ?_) (fun _ => ?_)
            · refine s_step (g_iload_n (iRow iCX12_weakest_1 9 rfl) rfl rfl) ?_
              refine s_nj 69 (fun z => [some (vR 13 0), some (vI a1), some (vI x4), some (vI x5)]) (fun z => []) (fun z => z) ?_ (fun j69 hj69 => ?_)
              · rintro M13
                show SW G (d + 7) YX12_weakest Z 69 [some (vR 13 0), some (vI a1), some (vI x4), some (vI x5)] [] M13 _ _
                try dsimp only
                refine s_step (g_aload_n (iRow iCX12_weakest_1 17 rfl) rfl rfl) ?_
                refine s_step (g_iload_n (iRow iCX12_weakest_1 18 rfl) rfl rfl) ?_
                refine s_cl (sf := fun x => vI x :: []) (fun _ _ h => h_V (As := [_]) (iRow iCX12_weakest_1 19 rfl) l12_467 iX12_upIf ko_13 rfl rfl rfl rfl (t_X12_upIf (d + 0) h) rfl (by omega) (by decide) (Nat.le_of_ble_eq_true rfl)) (fun x15 M14 => ?_)
                refine s_step (g_iload_n (iRow iCX12_weakest_1 20 rfl) rfl rfl) ?_
                refine s_step (g_ishr (iRow iCX12_weakest_1 21 rfl)) ?_
                refine s_step (g_iconst (iRow iCX12_weakest_1 22 rfl) kc_1) ?_
                refine s_step (g_iand (iRow iCX12_weakest_1 23 rfl)) ?_
                refine s_ifn (g_if_ne (tgt := 83) (iRow iCX12_weakest_2 0 rfl) (by decide)) (fun _ => ?_) (fun _ => ?_)
                · refine s_step (g_iload_n (iRow iCX12_weakest_2 1 rfl) rfl rfl) ?_
                  refine s_step (g_istore_n (ls' := [some (vR 13 0), some (vI a1), some (vI x5), some (vI x5)]) (iRow iCX12_weakest_2 2 rfl) rfl (by decide) rfl) ?_
                  exact s_end (fun h => h)
                · exact s_end (fun h => h)
              · refine s_if (g_if_lt (tgt := 69) (iRow iCX12_weakest_1 10 rfl) (by decide)) (fun _ => ?_) (fun _ => ?_)
                · exact hj69 _
                · refine s_step (g_iload_n (iRow iCX12_weakest_1 11 rfl) rfl rfl) ?_
                  refine s_cl (sf := fun x => vI x :: []) (fun _ _ h => h_S (As := [_]) (iRow iCX12_weakest_1 12 rfl) l12_470 iX12_bits rfl rfl (t_X12_bits (d + 6) h) rfl (by omega) (by decide) (Nat.le_of_ble_eq_true rfl)) (fun x10 M9 => ?_)
                  refine s_step (g_iload_n (iRow iCX12_weakest_1 13 rfl) rfl rfl) ?_
                  refine s_cl (sf := fun x => vI x :: [vI x10]) (fun _ _ h => h_S (As := [_]) (iRow iCX12_weakest_1 14 rfl) l12_470 iX12_bits rfl rfl (t_X12_bits (d + 6) h) rfl (by omega) (by decide) (Nat.le_of_ble_eq_true rfl)) (fun x12 M11 => ?_)
                  refine s_if (g_icmp_lt (tgt := 69) (iRow iCX12_weakest_1 15 rfl) (by decide)) (fun _ => ?_) (fun _ => ?_)
                  · exact hj69 _
                  · refine s_step (g_goto (tgt := 83) (iRow iCX12_weakest_1 16 rfl) (by decide)) ?_
                    exact s_end (fun h => h)
            · exact s_end (fun h => h)
          · rintro ⟨x16, M17⟩
            show SW G (d + 7) YX12_weakest Z 83 [some (vR 13 0), some (vI a1), some (vI x16), some (vI x5)] [] M17 _ _
            try dsimp only
            refine s_step (g_iincc (c := 1) (ls' := [some (vR 13 0), some (vI a1), some (vI x16), some (vI (x5 + (1 : Int32)))]) (iRow iCX12_weakest_2 3 rfl) rfl kc_1 (by decide) rfl) ?_
            refine s_step (g_goto (tgt := 32) (iRow iCX12_weakest_2 4 rfl) (by decide)) ?_
            exact s_end (fun h => h)
      · rintro ⟨x18, M19⟩
        show SW G (d + 7) YX12_weakest Z 89 [none, none, some (vI x18), none] [] M19 _ _
        try dsimp only
        refine s_step (g_iload_n (iRow iCX12_weakest_2 5 rfl) rfl rfl) ?_
        exact s_reti (iRow iCX12_weakest_2 6 rfl) rfl
  · refine s_step (g_iconst (iRow iCX12_weakest_0 16 rfl) kc_m1) ?_
    exact s_reti (iRow iCX12_weakest_0 17 rfl) rfl
abbrev YX12_sureOf : mY := (RX12, "sureOf", cX12_sureOf, 8, (some .int), none)
set_option maxHeartbeats 400000 in
set_option maxRecDepth 20000 in
theorem t_X12_sureOf {G : mg} {F : Nat} {a1 : Int32} {M : mm} {x : Int32} {M' : mm} (d : Nat) (h : m_X12_sureOf F a1 M = some (x, M')) : CM G yX12_sureOf cX12_sureOf 8 (some .int) (d + 7) [vR 13 0, vI a1] M (some (vI x)) M' := by
  refine ct_i (ls := [some (vR 13 0), some (vI a1), none, none, none, none, none, none]) rfl rfl (Nat.le_of_ble_eq_true rfl) (fun Z => ?_) h
  show SW G (d + 7) YX12_sureOf Z 0 [some (vR 13 0), some (vI a1), none, none, none, none, none, none] [] M _ _
  unfold m_X12_sureOf
  refine s_step (g_iconst (iRow iCX12_sureOf_0 0 rfl) kc_0) ?_
  refine s_step (g_istore_n (ls' := [some (vR 13 0), some (vI a1), some (vI (0 : Int32)), none, none, none, none, none]) (iRow iCX12_sureOf_0 1 rfl) rfl (by decide) rfl) ?_
  refine s_step (g_iconst (iRow iCX12_sureOf_0 2 rfl) kc_0) ?_
  refine s_step (g_istore_n (ls' := [some (vR 13 0), some (vI a1), some (vI (0 : Int32)), some (vI (0 : Int32)), none, none, none, none]) (iRow iCX12_sureOf_0 3 rfl) rfl (by decide) rfl) ?_
  refine s_lp (fun z => [some (vR 13 0), some (vI a1), some (vI (z.1)), some (vI (z.2.1)), none, none, none, none]) (fun z => z.2.2) (fun z => LM G (d + 7) YX12_sureOf Z 151 [none, none, some (vI (z.1)), none, none, none, none, none] [] z.2) rfl rfl ?_ ?_
  · rintro ⟨x1, x2, M3⟩
    show SW G (d + 7) YX12_sureOf Z 4 [some (vR 13 0), some (vI a1), some (vI x1), some (vI x2), none, none, none, none] [] M3 (b_X12_sureOf_1c F a1 x1 x2 M3) _
    unfold b_X12_sureOf_1c
    refine s_step (g_iload_n (iRow iCX12_sureOf_0 4 rfl) rfl rfl) ?_
    refine s_step (g_iconst (iRow iCX12_sureOf_0 5 rfl) kc_1) ?_
    refine s_step (g_aload_n (iRow iCX12_sureOf_0 6 rfl) rfl rfl) ?_
    refine s_step (g_getR (iRow iCX12_sureOf_0 7 rfl) f12_13 ko_13 (r_13_10 _ _)) ?_
    refine s_step (g_iconst (iRow iCX12_sureOf_0 8 rfl) kc_0) ?_
    refine s_gi (fun h => g_iald (iRow iCX12_sureOf_0 9 rfl) kn_64 ka_64 h) ?_
    refine s_step (g_ishl (iRow iCX12_sureOf_0 10 rfl)) ?_
    refine s_if (g_icmp_ge (tgt := 151) (iRow iCX12_sureOf_0 11 rfl) (by decide)) (fun _ => ?_) (fun _ => ?_)
    · refine s_step (g_keep [false, false, true, false, false, false, false, false] rfl) ?_
      exact s_end (fun h => h)
    · refine s_step (g_iconst (iRow iCX12_sureOf_0 12 rfl) kc_1) ?_
      refine s_step (g_istore (ls' := [some (vR 13 0), some (vI a1), some (vI x1), some (vI x2), some (vI (1 : Int32)), none, none, none]) (iRow iCX12_sureOf_0 13 rfl) (by decide) rfl) ?_
      refine s_step (g_iconst (iRow iCX12_sureOf_0 14 rfl) kc_0) ?_
      refine s_step (g_istore (ls' := [some (vR 13 0), some (vI a1), some (vI x1), some (vI x2), some (vI (1 : Int32)), some (vI (0 : Int32)), none, none]) (iRow iCX12_sureOf_0 15 rfl) (by decide) rfl) ?_
      refine s_step (g_iconst (iRow iCX12_sureOf_0 16 rfl) kc_0) ?_
      refine s_step (g_istore (ls' := [some (vR 13 0), some (vI a1), some (vI x1), some (vI x2), some (vI (1 : Int32)), some (vI (0 : Int32)), some (vI (0 : Int32)), none]) (iRow iCX12_sureOf_0 17 rfl) (by decide) rfl) ?_
      refine s_lp (fun z => [some (vR 13 0), some (vI a1), some (vI x1), some (vI x2), some (vI (z.1)), some (vI (z.2.1)), some (vI (z.2.2.1)), none]) (fun z => z.2.2.2) (fun z => LM G (d + 7) YX12_sureOf Z 121 [some (vR 13 0), some (vI a1), some (vI x1), some (vI x2), some (vI (z.1)), some (vI (z.2.1)), none, none] [] z.2.2) rfl rfl ?_ ?_
      · rintro ⟨x4, x5, x6, M7⟩
        show SW G (d + 7) YX12_sureOf Z 25 [some (vR 13 0), some (vI a1), some (vI x1), some (vI x2), some (vI x4), some (vI x5), some (vI x6), none] [] M7 (b_X12_sureOf_2c F x2 x4 x5 x6 M7) _
        unfold b_X12_sureOf_2c
        refine s_step (g_iload (iRow iCX12_sureOf_0 18 rfl) rfl) ?_
        refine s_step (g_bipush (iRow iCX12_sureOf_0 19 rfl) kb_6) ?_
        refine s_if (g_icmp_ge (tgt := 121) (iRow iCX12_sureOf_0 20 rfl) (by decide)) (fun _ => ?_) (fun _ => ?_)
        · refine s_step (g_keep [true, true, true, true, true, true, false, false] rfl) ?_
          exact s_end (fun h => h)
        · refine s_step (g_iload_n (iRow iCX12_sureOf_0 21 rfl) rfl rfl) ?_
          refine s_step (g_iload (iRow iCX12_sureOf_0 22 rfl) rfl) ?_
          refine s_step (g_ishr (iRow iCX12_sureOf_0 23 rfl)) ?_
          refine s_step (g_iconst (iRow iCX12_sureOf_1 0 rfl) kc_1) ?_
          refine s_step (g_iand (iRow iCX12_sureOf_1 1 rfl)) ?_
          refine s_step (g_iconst (iRow iCX12_sureOf_1 2 rfl) kc_1) ?_
          refine s_bd (fun z => LM G (d + 7) YX12_sureOf Z 47 [some (vR 13 0), some (vI a1), some (vI x1), some (vI x2), some (vI x4), some (vI x5), some (vI x6), none] [vI z] M7) ?_ ?_
          · refine s_ifn (g_icmp_ne (tgt := 46) (iRow iCX12_sureOf_1 3 rfl) (by decide)) (fun _ => ?_) (fun _ => ?_)
            · refine s_step (g_iconst (iRow iCX12_sureOf_1 4 rfl) kc_1) ?_
              refine s_step (g_goto (tgt := 47) (iRow iCX12_sureOf_1 5 rfl) (by decide)) ?_
              exact s_end (fun h => h)
            · refine s_step (g_iconst (iRow iCX12_sureOf_1 6 rfl) kc_0) ?_
              exact s_end (fun h => h)
          · rintro x8
            show SW G (d + 7) YX12_sureOf Z 47 [some (vR 13 0), some (vI a1), some (vI x1), some (vI x2), some (vI x4), some (vI x5), some (vI x6), none] [vI x8] M7 _ _
            try dsimp only
            refine s_step (g_istore (ls' := [some (vR 13 0), some (vI a1), some (vI x1), some (vI x2), some (vI x4), some (vI x5), some (vI x6), some (vI x8)]) (iRow iCX12_sureOf_1 7 rfl) (by decide) rfl) ?_
            refine s_step (g_iload (iRow iCX12_sureOf_1 8 rfl) rfl) ?_
            refine s_step (g_iload (iRow iCX12_sureOf_1 9 rfl) rfl) ?_
            refine s_step (g_aload_n (iRow iCX12_sureOf_1 10 rfl) rfl rfl) ?_
            refine s_step (g_getR (iRow iCX12_sureOf_1 11 rfl) f12_13 ko_13 (r_13_10 _ _)) ?_
            refine s_step (g_iconst (iRow iCX12_sureOf_1 12 rfl) kc_0) ?_
            refine s_gi (fun h => g_iald (iRow iCX12_sureOf_1 13 rfl) kn_64 ka_64 h) ?_
            refine s_bd (fun z => LM G (d + 7) YX12_sureOf Z 92 [some (vR 13 0), some (vI a1), some (vI x1), some (vI x2), none, some (vI x5), some (vI x6), some (vI x8)] [vI z, vI x4] M7) ?_ ?_
            · refine s_if (g_icmp_lt (tgt := 67) (iRow iCX12_sureOf_1 14 rfl) (by decide)) (fun _ => ?_) (fun _ => ?_)
              · refine s_step (g_iload (iRow iCX12_sureOf_1 17 rfl) rfl) ?_
                refine s_if (g_if_eq (tgt := 85) (iRow iCX12_sureOf_1 18 rfl) (by decide)) (fun _ => ?_) (fun _ => ?_)
                · refine s_step (g_aload_n (iRow iCX12_sureOf_2 2 rfl) rfl rfl) ?_
                  refine s_step (g_getR (iRow iCX12_sureOf_2 3 rfl) f12_26 ko_13 (r_13_14 _ _)) ?_
                  refine s_step (g_iload (iRow iCX12_sureOf_2 4 rfl) rfl) ?_
                  refine s_gi (fun h => g_iald (iRow iCX12_sureOf_2 5 rfl) kn_68 ka_68 h) ?_
                  refine s_step (g_keep [true, true, true, true, false, true, true, true] rfl) ?_
                  exact s_end (fun h => h)
                · refine s_step (g_bipush (iRow iCX12_sureOf_1 19 rfl) kb_10) ?_
                  refine s_step (g_aload_n (iRow iCX12_sureOf_1 20 rfl) rfl rfl) ?_
                  refine s_step (g_getR (iRow iCX12_sureOf_1 21 rfl) f12_26 ko_13 (r_13_14 _ _)) ?_
                  refine s_step (g_iload (iRow iCX12_sureOf_1 22 rfl) rfl) ?_
                  refine s_gi (fun h => g_iald (iRow iCX12_sureOf_1 23 rfl) kn_68 ka_68 h) ?_
                  refine s_step (g_isub (iRow iCX12_sureOf_2 0 rfl)) ?_
                  refine s_step (g_goto (tgt := 92) (iRow iCX12_sureOf_2 1 rfl) (by decide)) ?_
                  refine s_step (g_keep [true, true, true, true, false, true, true, true] rfl) ?_
                  exact s_end (fun h => h)
              · refine s_step (g_bipush (iRow iCX12_sureOf_1 15 rfl) kb_10) ?_
                refine s_step (g_goto (tgt := 92) (iRow iCX12_sureOf_1 16 rfl) (by decide)) ?_
                refine s_step (g_keep [true, true, true, true, false, true, true, true] rfl) ?_
                exact s_end (fun h => h)
            · rintro x9
              show SW G (d + 7) YX12_sureOf Z 92 [some (vR 13 0), some (vI a1), some (vI x1), some (vI x2), none, some (vI x5), some (vI x6), some (vI x8)] [vI x9, vI x4] M7 _ _
              try dsimp only
              refine s_step (g_imul (iRow iCX12_sureOf_2 6 rfl)) ?_
              refine s_nmI (fun x10 => ?_)
              refine s_step (g_istore (ls' := [some (vR 13 0), some (vI a1), some (vI x1), some (vI x2), some (vI x10), some (vI x5), some (vI x6), some (vI x8)]) (iRow iCX12_sureOf_2 7 rfl) (by decide) rfl) ?_
              refine s_step (g_iload (iRow iCX12_sureOf_2 8 rfl) rfl) ?_
              refine s_step (g_iload (iRow iCX12_sureOf_2 9 rfl) rfl) ?_
              refine s_bd (fun z => LM G (d + 7) YX12_sureOf Z 112 [some (vR 13 0), some (vI a1), some (vI x1), some (vI x2), some (vI x10), none, some (vI x6), none] [vI (z.1), vI x5] z.2) ?_ ?_
              · refine s_if (g_if_eq (tgt := 111) (iRow iCX12_sureOf_2 10 rfl) (by decide)) (fun _ => ?_) (fun _ => ?_)
                · refine s_step (g_iconst (iRow iCX12_sureOf_2 15 rfl) kc_0) ?_
                  refine s_step (g_keep [true, true, true, true, true, false, true, false] rfl) ?_
                  exact s_end (fun h => h)
                · refine s_step (g_aload_n (iRow iCX12_sureOf_2 11 rfl) rfl rfl) ?_
                  refine s_step (g_iload (iRow iCX12_sureOf_2 12 rfl) rfl) ?_
                  refine s_cl (sf := fun x => vI x :: [vI x5]) (fun _ _ h => h_V (As := [_]) (iRow iCX12_sureOf_2 13 rfl) l12_393 iX12_oathsOf ko_13 rfl rfl rfl rfl (t_X12_oathsOf (d + 6) h) rfl (by omega) (by decide) (Nat.le_of_ble_eq_true rfl)) (fun x12 M11 => ?_)
                  refine s_step (g_goto (tgt := 112) (iRow iCX12_sureOf_2 14 rfl) (by decide)) ?_
                  refine s_step (g_keep [true, true, true, true, true, false, true, false] rfl) ?_
                  exact s_end (fun h => h)
              · rintro ⟨x13, M14⟩
                show SW G (d + 7) YX12_sureOf Z 112 [some (vR 13 0), some (vI a1), some (vI x1), some (vI x2), some (vI x10), none, some (vI x6), none] [vI x13, vI x5] M14 _ _
                try dsimp only
                refine s_step (g_ior (iRow iCX12_sureOf_2 16 rfl)) ?_
                refine s_nmI (fun x15 => ?_)
                refine s_step (g_istore (ls' := [some (vR 13 0), some (vI a1), some (vI x1), some (vI x2), some (vI x10), some (vI x15), some (vI x6), none]) (iRow iCX12_sureOf_2 17 rfl) (by decide) rfl) ?_
                refine s_step (g_iincc (c := 1) (ls' := [some (vR 13 0), some (vI a1), some (vI x1), some (vI x2), some (vI x10), some (vI x15), some (vI (x6 + (1 : Int32))), none]) (iRow iCX12_sureOf_2 18 rfl) rfl kc_1 (by decide) rfl) ?_
                refine s_step (g_goto (tgt := 25) (iRow iCX12_sureOf_2 19 rfl) (by decide)) ?_
                exact s_end (fun h => h)
      · rintro ⟨x16, x17, M18⟩
        show SW G (d + 7) YX12_sureOf Z 121 [some (vR 13 0), some (vI a1), some (vI x1), some (vI x2), some (vI x16), some (vI x17), none, none] [] M18 _ _
        try dsimp only
        refine s_step (g_iload (iRow iCX12_sureOf_2 20 rfl) rfl) ?_
        refine s_bd (fun z => LM G (d + 7) YX12_sureOf Z 145 [some (vR 13 0), some (vI a1), some (vI (z.1)), some (vI x2), none, none, none, none] [] z.2) ?_ ?_
        · refine s_if (g_if_le (tgt := 145) (iRow iCX12_sureOf_2 21 rfl) (by decide)) (fun _ => ?_) (fun _ => ?_)
          · refine s_step (g_keep [true, true, true, true, false, false, false, false] rfl) ?_
            exact s_end (fun h => h)
          · refine s_step (g_aload_n (iRow iCX12_sureOf_2 22 rfl) rfl rfl) ?_
            refine s_step (g_iload (iRow iCX12_sureOf_2 23 rfl) rfl) ?_
            refine s_cl (sf := fun x => vI x :: []) (fun _ _ h => h_V (As := [_]) (iRow iCX12_sureOf_3 0 rfl) l12_467 iX12_upIf ko_13 rfl rfl rfl rfl (t_X12_upIf (d + 0) h) rfl (by omega) (by decide) (Nat.le_of_ble_eq_true rfl)) (fun x20 M19 => ?_)
            refine s_step (g_iload_n (iRow iCX12_sureOf_3 1 rfl) rfl rfl) ?_
            refine s_step (g_ishr (iRow iCX12_sureOf_3 2 rfl)) ?_
            refine s_step (g_iconst (iRow iCX12_sureOf_3 3 rfl) kc_1) ?_
            refine s_step (g_iand (iRow iCX12_sureOf_3 4 rfl)) ?_
            refine s_step (g_iconst (iRow iCX12_sureOf_3 5 rfl) kc_1) ?_
            refine s_ifn (g_icmp_ne (tgt := 145) (iRow iCX12_sureOf_3 6 rfl) (by decide)) (fun _ => ?_) (fun _ => ?_)
            · refine s_step (g_iload_n (iRow iCX12_sureOf_3 7 rfl) rfl rfl) ?_
              refine s_step (g_iload (iRow iCX12_sureOf_3 8 rfl) rfl) ?_
              refine s_step (g_iadd (iRow iCX12_sureOf_3 9 rfl)) ?_
              refine s_nmI (fun x21 => ?_)
              refine s_step (g_istore_n (ls' := [some (vR 13 0), some (vI a1), some (vI x21), some (vI x2), some (vI x16), some (vI x17), none, none]) (iRow iCX12_sureOf_3 10 rfl) rfl (by decide) rfl) ?_
              refine s_step (g_keep [true, true, true, true, false, false, false, false] rfl) ?_
              exact s_end (fun h => h)
            · refine s_step (g_keep [true, true, true, true, false, false, false, false] rfl) ?_
              exact s_end (fun h => h)
        · rintro ⟨x22, M23⟩
          show SW G (d + 7) YX12_sureOf Z 145 [some (vR 13 0), some (vI a1), some (vI x22), some (vI x2), none, none, none, none] [] M23 _ _
          try dsimp only
          refine s_step (g_iincc (c := 1) (ls' := [some (vR 13 0), some (vI a1), some (vI x22), some (vI (x2 + (1 : Int32))), none, none, none, none]) (iRow iCX12_sureOf_3 11 rfl) rfl kc_1 (by decide) rfl) ?_
          refine s_step (g_goto (tgt := 4) (iRow iCX12_sureOf_3 12 rfl) (by decide)) ?_
          exact s_end (fun h => h)
  · rintro ⟨x24, M25⟩
    show SW G (d + 7) YX12_sureOf Z 151 [none, none, some (vI x24), none, none, none, none, none] [] M25 _ _
    try dsimp only
    refine s_step (g_iload_n (iRow iCX12_sureOf_3 13 rfl) rfl rfl) ?_
    exact s_reti (iRow iCX12_sureOf_3 14 rfl) rfl
