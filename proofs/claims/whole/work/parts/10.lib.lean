theorem kb_m14 : (Int8.ofInt (-14)).toInt32 = (-14) := by decide +kernel
theorem kb_m13 : (Int8.ofInt (-13)).toInt32 = (-13) := by decide +kernel
theorem kb_m12 : (Int8.ofInt (-12)).toInt32 = (-12) := by decide +kernel
theorem kb_m11 : (Int8.ofInt (-11)).toInt32 = (-11) := by decide +kernel
theorem kb_m10 : (Int8.ofInt (-10)).toInt32 = (-10) := by decide +kernel
theorem kb_m9 : (Int8.ofInt (-9)).toInt32 = (-9) := by decide +kernel
theorem kb_m8 : (Int8.ofInt (-8)).toInt32 = (-8) := by decide +kernel
theorem kb_m7 : (Int8.ofInt (-7)).toInt32 = (-7) := by decide +kernel
theorem kb_m6 : (Int8.ofInt (-6)).toInt32 = (-6) := by decide +kernel
theorem kb_m5 : (Int8.ofInt (-5)).toInt32 = (-5) := by decide +kernel
theorem kb_m3 : (Int8.ofInt (-3)).toInt32 = (-3) := by decide +kernel
theorem kb_m2 : (Int8.ofInt (-2)).toInt32 = (-2) := by decide +kernel
theorem kb_6 : (Int8.ofInt 6).toInt32 = 6 := by decide +kernel
theorem kb_7 : (Int8.ofInt 7).toInt32 = 7 := by decide +kernel
theorem kb_8 : (Int8.ofInt 8).toInt32 = 8 := by decide +kernel
theorem kb_9 : (Int8.ofInt 9).toInt32 = 9 := by decide +kernel
theorem kb_10 : (Int8.ofInt 10).toInt32 = 10 := by decide +kernel
theorem kb_11 : (Int8.ofInt 11).toInt32 = 11 := by decide +kernel
theorem kb_12 : (Int8.ofInt 12).toInt32 = 12 := by decide +kernel
theorem kb_14 : (Int8.ofInt 14).toInt32 = 14 := by decide +kernel
theorem kb_16 : (Int8.ofInt 16).toInt32 = 16 := by decide +kernel
theorem kb_17 : (Int8.ofInt 17).toInt32 = 17 := by decide +kernel
theorem kb_18 : (Int8.ofInt 18).toInt32 = 18 := by decide +kernel
theorem kb_20 : (Int8.ofInt 20).toInt32 = 20 := by decide +kernel
theorem kb_21 : (Int8.ofInt 21).toInt32 = 21 := by decide +kernel
theorem kb_22 : (Int8.ofInt 22).toInt32 = 22 := by decide +kernel
theorem kb_23 : (Int8.ofInt 23).toInt32 = 23 := by decide +kernel
theorem kb_24 : (Int8.ofInt 24).toInt32 = 24 := by decide +kernel
theorem kb_25 : (Int8.ofInt 25).toInt32 = 25 := by decide +kernel
theorem kb_26 : (Int8.ofInt 26).toInt32 = 26 := by decide +kernel
theorem kb_27 : (Int8.ofInt 27).toInt32 = 27 := by decide +kernel
theorem kb_28 : (Int8.ofInt 28).toInt32 = 28 := by decide +kernel
theorem kb_29 : (Int8.ofInt 29).toInt32 = 29 := by decide +kernel
theorem kb_30 : (Int8.ofInt 30).toInt32 = 30 := by decide +kernel
theorem kb_32 : (Int8.ofInt 32).toInt32 = 32 := by decide +kernel
theorem kb_40 : (Int8.ofInt 40).toInt32 = 40 := by decide +kernel
theorem kb_41 : (Int8.ofInt 41).toInt32 = 41 := by decide +kernel
theorem kb_42 : (Int8.ofInt 42).toInt32 = 42 := by decide +kernel
theorem kb_43 : (Int8.ofInt 43).toInt32 = 43 := by decide +kernel
theorem kb_45 : (Int8.ofInt 45).toInt32 = 45 := by decide +kernel
theorem kb_48 : (Int8.ofInt 48).toInt32 = 48 := by decide +kernel
theorem kb_56 : (Int8.ofInt 56).toInt32 = 56 := by decide +kernel
theorem kb_57 : (Int8.ofInt 57).toInt32 = 57 := by decide +kernel
theorem kb_59 : (Int8.ofInt 59).toInt32 = 59 := by decide +kernel
theorem kb_60 : (Int8.ofInt 60).toInt32 = 60 := by decide +kernel
theorem kb_61 : (Int8.ofInt 61).toInt32 = 61 := by decide +kernel
theorem kb_63 : (Int8.ofInt 63).toInt32 = 63 := by decide +kernel
theorem kb_97 : (Int8.ofInt 97).toInt32 = 97 := by decide +kernel
theorem kb_99 : (Int8.ofInt 99).toInt32 = 99 := by decide +kernel
theorem kb_100 : (Int8.ofInt 100).toInt32 = 100 := by decide +kernel
theorem kb_122 : (Int8.ofInt 122).toInt32 = 122 := by decide +kernel
theorem kb_126 : (Int8.ofInt 126).toInt32 = 126 := by decide +kernel
theorem kc_m8 : Int32.ofInt (-8) = (-8) := by decide +kernel
theorem kc_m1 : Int32.ofInt (-1) = (-1) := by decide +kernel
theorem kc_0 : Int32.ofInt 0 = 0 := by decide +kernel
theorem kc_1 : Int32.ofInt 1 = 1 := by decide +kernel
theorem kc_2 : Int32.ofInt 2 = 2 := by decide +kernel
theorem kc_3 : Int32.ofInt 3 = 3 := by decide +kernel
theorem kc_4 : Int32.ofInt 4 = 4 := by decide +kernel
theorem kc_5 : Int32.ofInt 5 = 5 := by decide +kernel
theorem kl_6 : Int32.ofNat 6 = 6 := by decide +kernel
theorem kl_10 : Int32.ofNat 10 = 10 := by decide +kernel
theorem kl_20 : Int32.ofNat 20 = 20 := by decide +kernel
theorem kl_64 : Int32.ofNat 64 = 64 := by decide +kernel
theorem kl_100 : Int32.ofNat 100 = 100 := by decide +kernel
theorem kl_110 : Int32.ofNat 110 = 110 := by decide +kernel
theorem kl_1000 : Int32.ofNat 1000 = 1000 := by decide +kernel
theorem ks_200 : (Int16.ofInt 200).toInt32 = 200 := by decide +kernel
theorem ks_255 : (Int16.ofInt 255).toInt32 = 255 := by decide +kernel
theorem ks_999 : (Int16.ofInt 999).toInt32 = 999 := by decide +kernel
theorem ks_1000 : (Int16.ofInt 1000).toInt32 = 1000 := by decide +kernel
theorem ks_1023 : (Int16.ofInt 1023).toInt32 = 1023 := by decide +kernel
theorem ks_9999 : (Int16.ofInt 9999).toInt32 = 9999 := by decide +kernel
theorem ks_10000 : (Int16.ofInt 10000).toInt32 = 10000 := by decide +kernel
theorem ks_12345 : (Int16.ofInt 12345).toInt32 = 12345 := by decide +kernel
theorem ko_1 : kOb 1 = some 0 := rfl
theorem ko_2 : kOb 2 = some 1 := rfl
theorem ko_3 : kOb 3 = some 2 := rfl
theorem ko_4 : kOb 4 = some 3 := rfl
theorem ko_5 : kOb 5 = some 4 := rfl
theorem ko_6 : kOb 6 = some 5 := rfl
theorem ko_7 : kOb 7 = some 6 := rfl
theorem ko_8 : kOb 8 = some 7 := rfl
theorem ko_9 : kOb 9 = some 8 := rfl
theorem ko_10 : kOb 10 = some 9 := rfl
theorem ko_11 : kOb 11 = some 10 := rfl
theorem ko_12 : kOb 12 = some 11 := rfl
theorem ko_13 : kOb 13 = some 12 := rfl
theorem kn_20 : kOb 20 = none := rfl
theorem ka_20 : kAr 20 = (1, 6) := rfl
theorem kn_21 : kOb 21 = none := rfl
theorem ka_21 : kAr 21 = (0, 6) := rfl
theorem kn_22 : kOb 22 = none := rfl
theorem ka_22 : kAr 22 = (0, 6) := rfl
theorem kn_23 : kOb 23 = none := rfl
theorem ka_23 : kAr 23 = (0, 6) := rfl
theorem kn_24 : kOb 24 = none := rfl
theorem ka_24 : kAr 24 = (1, 10) := rfl
theorem kn_25 : kOb 25 = none := rfl
theorem ka_25 : kAr 25 = (0, 10) := rfl
theorem kn_26 : kOb 26 = none := rfl
theorem ka_26 : kAr 26 = (0, 10) := rfl
theorem kn_27 : kOb 27 = none := rfl
theorem ka_27 : kAr 27 = (0, 10) := rfl
theorem kn_28 : kOb 28 = none := rfl
theorem ka_28 : kAr 28 = (0, 10) := rfl
theorem kn_29 : kOb 29 = none := rfl
theorem ka_29 : kAr 29 = (0, 10) := rfl
theorem kn_30 : kOb 30 = none := rfl
theorem ka_30 : kAr 30 = (1, 10) := rfl
theorem kn_31 : kOb 31 = none := rfl
theorem ka_31 : kAr 31 = (0, 10) := rfl
theorem kn_32 : kOb 32 = none := rfl
theorem ka_32 : kAr 32 = (0, 10) := rfl
theorem kn_33 : kOb 33 = none := rfl
theorem ka_33 : kAr 33 = (0, 10) := rfl
theorem kn_34 : kOb 34 = none := rfl
theorem ka_34 : kAr 34 = (0, 10) := rfl
theorem kn_35 : kOb 35 = none := rfl
theorem ka_35 : kAr 35 = (0, 1000) := rfl
theorem kn_36 : kOb 36 = none := rfl
theorem ka_36 : kAr 36 = (0, 64) := rfl
theorem kn_37 : kOb 37 = none := rfl
theorem ka_37 : kAr 37 = (0, 20) := rfl
theorem kn_38 : kOb 38 = none := rfl
theorem ka_38 : kAr 38 = (0, 20) := rfl
theorem kn_39 : kOb 39 = none := rfl
theorem ka_39 : kAr 39 = (0, 64) := rfl
theorem kn_40 : kOb 40 = none := rfl
theorem ka_40 : kAr 40 = (2, 1000) := rfl
theorem kn_41 : kOb 41 = none := rfl
theorem ka_41 : kAr 41 = (1, 29) := rfl
theorem kn_42 : kOb 42 = none := rfl
theorem ka_42 : kAr 42 = (4, 4) := rfl
theorem kn_43 : kOb 43 = none := rfl
theorem ka_43 : kAr 43 = (0, 3) := rfl
theorem kn_44 : kOb 44 = none := rfl
theorem ka_44 : kAr 44 = (0, 3) := rfl
theorem kn_45 : kOb 45 = none := rfl
theorem ka_45 : kAr 45 = (0, 40) := rfl
theorem kn_46 : kOb 46 = none := rfl
theorem ka_46 : kAr 46 = (0, 40) := rfl
theorem kn_47 : kOb 47 = none := rfl
theorem ka_47 : kAr 47 = (0, 11) := rfl
theorem kn_48 : kOb 48 = none := rfl
theorem ka_48 : kAr 48 = (0, 10) := rfl
theorem kn_49 : kOb 49 = none := rfl
theorem ka_49 : kAr 49 = (0, 110) := rfl
theorem kn_50 : kOb 50 = none := rfl
theorem ka_50 : kAr 50 = (0, 10) := rfl
theorem kn_51 : kOb 51 = none := rfl
theorem ka_51 : kAr 51 = (0, 110) := rfl
theorem kn_52 : kOb 52 = none := rfl
theorem ka_52 : kAr 52 = (0, 10) := rfl
theorem kn_53 : kOb 53 = none := rfl
theorem ka_53 : kAr 53 = (0, 10) := rfl
theorem kn_54 : kOb 54 = none := rfl
theorem ka_54 : kAr 54 = (0, 11) := rfl
theorem kn_55 : kOb 55 = none := rfl
theorem ka_55 : kAr 55 = (0, 1024) := rfl
theorem kn_56 : kOb 56 = none := rfl
theorem ka_56 : kAr 56 = (0, 1024) := rfl
theorem kn_57 : kOb 57 = none := rfl
theorem ka_57 : kAr 57 = (0, 100) := rfl
theorem kn_58 : kOb 58 = none := rfl
theorem ka_58 : kAr 58 = (0, 10) := rfl
theorem kn_59 : kOb 59 = none := rfl
theorem ka_59 : kAr 59 = (0, 384) := rfl
theorem kn_60 : kOb 60 = none := rfl
theorem ka_60 : kAr 60 = (4, 16) := rfl
theorem kn_61 : kOb 61 = none := rfl
theorem ka_61 : kAr 61 = (4, 4) := rfl
theorem kn_62 : kOb 62 = none := rfl
theorem ka_62 : kAr 62 = (5, 4) := rfl
theorem kn_63 : kOb 63 = none := rfl
theorem ka_63 : kAr 63 = (0, 1000) := rfl
theorem kn_64 : kOb 64 = none := rfl
theorem ka_64 : kAr 64 = (0, 12) := rfl
theorem kn_65 : kOb 65 = none := rfl
theorem ka_65 : kAr 65 = (1, 12) := rfl
theorem kn_66 : kOb 66 = none := rfl
theorem ka_66 : kAr 66 = (1, 20) := rfl
theorem kn_67 : kOb 67 = none := rfl
theorem ka_67 : kAr 67 = (1, 20) := rfl
theorem kn_68 : kOb 68 = none := rfl
theorem ka_68 : kAr 68 = (0, 12) := rfl
theorem kn_69 : kOb 69 = none := rfl
theorem ka_69 : kAr 69 = (0, 12) := rfl
theorem kn_70 : kOb 70 = none := rfl
theorem ka_70 : kAr 70 = (0, 20) := rfl
theorem kn_71 : kOb 71 = none := rfl
theorem ka_71 : kAr 71 = (0, 20) := rfl
theorem kn_72 : kOb 72 = none := rfl
theorem ka_72 : kAr 72 = (0, 20) := rfl
theorem kn_73 : kOb 73 = none := rfl
theorem ka_73 : kAr 73 = (0, 20) := rfl
theorem kn_74 : kOb 74 = none := rfl
theorem ka_74 : kAr 74 = (0, 20) := rfl
theorem kn_75 : kOb 75 = none := rfl
theorem ka_75 : kAr 75 = (0, 22) := rfl
theorem kn_76 : kOb 76 = none := rfl
theorem ka_76 : kAr 76 = (0, 20) := rfl
theorem kn_77 : kOb 77 = none := rfl
theorem ka_77 : kAr 77 = (0, 22) := rfl
theorem kn_78 : kOb 78 = none := rfl
theorem ka_78 : kAr 78 = (0, 22) := rfl
theorem kn_79 : kOb 79 = none := rfl
theorem ka_79 : kAr 79 = (0, 2) := rfl
theorem kn_80 : kOb 80 = none := rfl
theorem ka_80 : kAr 80 = (0, 2) := rfl
theorem kn_81 : kOb 81 = none := rfl
theorem ka_81 : kAr 81 = (0, 2000) := rfl
theorem kn_82 : kOb 82 = none := rfl
theorem ka_82 : kAr 82 = (0, 7) := rfl
theorem kn_83 : kOb 83 = none := rfl
theorem ka_83 : kAr 83 = (3, 7) := rfl
theorem kn_84 : kOb 84 = none := rfl
theorem ka_84 : kAr 84 = (0, 7) := rfl
theorem kn_85 : kOb 85 = none := rfl
theorem ka_85 : kAr 85 = (0, 7) := rfl
theorem kn_86 : kOb 86 = none := rfl
theorem ka_86 : kAr 86 = (0, 7) := rfl
theorem kn_87 : kOb 87 = none := rfl
theorem ka_87 : kAr 87 = (0, 7) := rfl
theorem kn_88 : kOb 88 = none := rfl
theorem ka_88 : kAr 88 = (0, 7) := rfl
theorem kn_89 : kOb 89 = none := rfl
theorem ka_89 : kAr 89 = (0, 7) := rfl
theorem kn_90 : kOb 90 = none := rfl
theorem ka_90 : kAr 90 = (0, 7) := rfl
theorem kn_91 : kOb 91 = none := rfl
theorem ka_91 : kAr 91 = (0, 7) := rfl
theorem kn_92 : kOb 92 = none := rfl
theorem ka_92 : kAr 92 = (0, 7) := rfl
theorem kn_93 : kOb 93 = none := rfl
theorem ka_93 : kAr 93 = (0, 20) := rfl
theorem kn_94 : kOb 94 = none := rfl
theorem ka_94 : kAr 94 = (0, 6) := rfl
theorem kn_95 : kOb 95 = none := rfl
theorem ka_95 : kAr 95 = (0, 240) := rfl
theorem kn_96 : kOb 96 = none := rfl
theorem ka_96 : kAr 96 = (0, 240) := rfl
theorem kn_97 : kOb 97 = none := rfl
theorem ka_97 : kAr 97 = (0, 5) := rfl
theorem kn_98 : kOb 98 = none := rfl
theorem ka_98 : kAr 98 = (0, 50) := rfl
theorem kn_99 : kOb 99 = none := rfl
theorem ka_99 : kAr 99 = (3, 50) := rfl
theorem kn_100 : kOb 100 = none := rfl
theorem ka_100 : kAr 100 = (0, 4) := rfl
theorem kn_101 : kOb 101 = none := rfl
theorem ka_101 : kAr 101 = (0, 8) := rfl
theorem kn_102 : kOb 102 = none := rfl
theorem ka_102 : kAr 102 = (0, 16) := rfl
theorem kn_103 : kOb 103 = none := rfl
theorem ka_103 : kAr 103 = (0, 64) := rfl
theorem kn_104 : kOb 104 = none := rfl
theorem ka_104 : kAr 104 = (3, 4) := rfl
theorem kn_105 : kOb 105 = none := rfl
theorem ka_105 : kAr 105 = (0, 1024) := rfl
theorem kn_106 : kOb 106 = none := rfl
theorem ka_106 : kAr 106 = (0, 11) := rfl
theorem kn_107 : kOb 107 = none := rfl
theorem ka_107 : kAr 107 = (0, 3) := rfl
theorem kn_108 : kOb 108 = none := rfl
theorem ka_108 : kAr 108 = (0, 3) := rfl
theorem kn_109 : kOb 109 = none := rfl
theorem ka_109 : kAr 109 = (0, 10) := rfl
theorem kn_110 : kOb 110 = none := rfl
theorem ka_110 : kAr 110 = (1, 1) := rfl
theorem r_1_1 (n r : Nat) : rdM 1 n 1 r = vR 20 n := rfl
theorem r_1_10 (n r : Nat) : rdM 1 n 10 r = vR 28 n := rfl
theorem r_1_11 (n r : Nat) : rdM 1 n 11 r = vR 29 n := rfl
theorem r_1_14 (n r : Nat) : rdM 1 n 14 r = vR 30 n := rfl
theorem r_1_15 (n r : Nat) : rdM 1 n 15 r = vR 31 n := rfl
theorem r_1_16 (n r : Nat) : rdM 1 n 16 r = vR 32 n := rfl
theorem r_1_17 (n r : Nat) : rdM 1 n 17 r = vR 33 n := rfl
theorem r_1_18 (n r : Nat) : rdM 1 n 18 r = vR 34 n := rfl
theorem r_1_19 (n r : Nat) : rdM 1 n 19 r = vR 3 n := rfl
theorem r_1_2 (n r : Nat) : rdM 1 n 2 r = vR 21 n := rfl
theorem r_1_3 (n r : Nat) : rdM 1 n 3 r = vR 22 n := rfl
theorem r_1_4 (n r : Nat) : rdM 1 n 4 r = vR 23 n := rfl
theorem r_1_6 (n r : Nat) : rdM 1 n 6 r = vR 24 n := rfl
theorem r_1_7 (n r : Nat) : rdM 1 n 7 r = vR 25 n := rfl
theorem r_1_8 (n r : Nat) : rdM 1 n 8 r = vR 26 n := rfl
theorem r_1_9 (n r : Nat) : rdM 1 n 9 r = vR 27 n := rfl
theorem r_10_0 (n r : Nat) : rdM 10 n 0 r = vR 47 0 := rfl
theorem r_10_1 (n r : Nat) : rdM 10 n 1 r = vR 48 0 := rfl
theorem r_10_2 (n r : Nat) : rdM 10 n 2 r = vR 49 0 := rfl
theorem r_10_3 (n r : Nat) : rdM 10 n 3 r = vR 50 0 := rfl
theorem r_10_4 (n r : Nat) : rdM 10 n 4 r = vR 51 0 := rfl
theorem r_10_7 (n r : Nat) : rdM 10 n 7 r = vR 52 0 := rfl
theorem r_10_8 (n r : Nat) : rdM 10 n 8 r = vR 53 0 := rfl
theorem r_10_9 (n r : Nat) : rdM 10 n 9 r = vR 54 0 := rfl
theorem r_11_0 (n r : Nat) : rdM 11 n 0 r = vR 10 0 := rfl
theorem r_11_1 (n r : Nat) : rdM 11 n 1 r = vR 1 r := rfl
theorem r_11_15 (n r : Nat) : rdM 11 n 15 r = vR 58 0 := rfl
theorem r_11_16 (n r : Nat) : rdM 11 n 16 r = vR 59 0 := rfl
theorem r_11_2 (n r : Nat) : rdM 11 n 2 r = vR 5 0 := rfl
theorem r_11_3 (n r : Nat) : rdM 11 n 3 r = vR 5 1 := rfl
theorem r_11_4 (n r : Nat) : rdM 11 n 4 r = vR 55 0 := rfl
theorem r_11_5 (n r : Nat) : rdM 11 n 5 r = vR 56 0 := rfl
theorem r_11_9 (n r : Nat) : rdM 11 n 9 r = vR 57 0 := rfl
theorem r_12_0 (n r : Nat) : rdM 12 n 0 r = vR 7 0 := rfl
theorem r_12_1 (n r : Nat) : rdM 12 n 1 r = vR 6 0 := rfl
theorem r_12_10 (n r : Nat) : rdM 12 n 10 r = vR 9 0 := rfl
theorem r_12_11 (n r : Nat) : rdM 12 n 11 r = vR 9 1 := rfl
theorem r_12_12 (n r : Nat) : rdM 12 n 12 r = vR 60 0 := rfl
theorem r_12_15 (n r : Nat) : rdM 12 n 15 r = vR 61 0 := rfl
theorem r_12_16 (n r : Nat) : rdM 12 n 16 r = vR 62 0 := rfl
theorem r_12_2 (n r : Nat) : rdM 12 n 2 r = vR 10 0 := rfl
theorem r_12_3 (n r : Nat) : rdM 12 n 3 r = vR 2 0 := rfl
theorem r_12_4 (n r : Nat) : rdM 12 n 4 r = vR 11 0 := rfl
theorem r_12_5 (n r : Nat) : rdM 12 n 5 r = vR 8 0 := rfl
theorem r_12_6 (n r : Nat) : rdM 12 n 6 r = vR 1 r := rfl
theorem r_12_7 (n r : Nat) : rdM 12 n 7 r = vR 1 r := rfl
theorem r_12_8 (n r : Nat) : rdM 12 n 8 r = vR 5 7 := rfl
theorem r_12_9 (n r : Nat) : rdM 12 n 9 r = vR 5 8 := rfl
theorem r_13_10 (n r : Nat) : rdM 13 n 10 r = vR 64 0 := rfl
theorem r_13_11 (n r : Nat) : rdM 13 n 11 r = vR 65 0 := rfl
theorem r_13_12 (n r : Nat) : rdM 13 n 12 r = vR 66 0 := rfl
theorem r_13_13 (n r : Nat) : rdM 13 n 13 r = vR 67 0 := rfl
theorem r_13_14 (n r : Nat) : rdM 13 n 14 r = vR 68 0 := rfl
theorem r_13_15 (n r : Nat) : rdM 13 n 15 r = vR 69 0 := rfl
theorem r_13_16 (n r : Nat) : rdM 13 n 16 r = vR 70 0 := rfl
theorem r_13_17 (n r : Nat) : rdM 13 n 17 r = vR 71 0 := rfl
theorem r_13_18 (n r : Nat) : rdM 13 n 18 r = vR 72 0 := rfl
theorem r_13_19 (n r : Nat) : rdM 13 n 19 r = vR 73 0 := rfl
theorem r_13_2 (n r : Nat) : rdM 13 n 2 r = vR 63 0 := rfl
theorem r_13_20 (n r : Nat) : rdM 13 n 20 r = vR 74 0 := rfl
theorem r_13_21 (n r : Nat) : rdM 13 n 21 r = vR 75 0 := rfl
theorem r_13_22 (n r : Nat) : rdM 13 n 22 r = vR 76 0 := rfl
theorem r_13_23 (n r : Nat) : rdM 13 n 23 r = vR 77 0 := rfl
theorem r_13_24 (n r : Nat) : rdM 13 n 24 r = vR 78 0 := rfl
theorem r_13_25 (n r : Nat) : rdM 13 n 25 r = vR 79 0 := rfl
theorem r_13_26 (n r : Nat) : rdM 13 n 26 r = vR 80 0 := rfl
theorem r_13_27 (n r : Nat) : rdM 13 n 27 r = vR 81 0 := rfl
theorem r_13_30 (n r : Nat) : rdM 13 n 30 r = vR 82 0 := rfl
theorem r_13_31 (n r : Nat) : rdM 13 n 31 r = vR 83 0 := rfl
theorem r_13_32 (n r : Nat) : rdM 13 n 32 r = vR 84 0 := rfl
theorem r_13_33 (n r : Nat) : rdM 13 n 33 r = vR 85 0 := rfl
theorem r_13_34 (n r : Nat) : rdM 13 n 34 r = vR 86 0 := rfl
theorem r_13_35 (n r : Nat) : rdM 13 n 35 r = vR 87 0 := rfl
theorem r_13_36 (n r : Nat) : rdM 13 n 36 r = vR 88 0 := rfl
theorem r_13_37 (n r : Nat) : rdM 13 n 37 r = vR 89 0 := rfl
theorem r_13_38 (n r : Nat) : rdM 13 n 38 r = vR 90 0 := rfl
theorem r_13_39 (n r : Nat) : rdM 13 n 39 r = vR 91 0 := rfl
theorem r_13_40 (n r : Nat) : rdM 13 n 40 r = vR 92 0 := rfl
theorem r_13_41 (n r : Nat) : rdM 13 n 41 r = vR 93 0 := rfl
theorem r_13_43 (n r : Nat) : rdM 13 n 43 r = vR 94 0 := rfl
theorem r_13_44 (n r : Nat) : rdM 13 n 44 r = vR 95 0 := rfl
theorem r_13_45 (n r : Nat) : rdM 13 n 45 r = vR 96 0 := rfl
theorem r_13_46 (n r : Nat) : rdM 13 n 46 r = vR 97 0 := rfl
theorem r_13_47 (n r : Nat) : rdM 13 n 47 r = vR 98 0 := rfl
theorem r_13_48 (n r : Nat) : rdM 13 n 48 r = vR 99 0 := rfl
theorem r_13_49 (n r : Nat) : rdM 13 n 49 r = vR 100 0 := rfl
theorem r_13_50 (n r : Nat) : rdM 13 n 50 r = vR 101 0 := rfl
theorem r_13_51 (n r : Nat) : rdM 13 n 51 r = vR 102 0 := rfl
theorem r_13_52 (n r : Nat) : rdM 13 n 52 r = vR 103 0 := rfl
theorem r_13_53 (n r : Nat) : rdM 13 n 53 r = vR 104 0 := rfl
theorem r_13_55 (n r : Nat) : rdM 13 n 55 r = vR 105 0 := rfl
theorem r_13_56 (n r : Nat) : rdM 13 n 56 r = vR 106 0 := rfl
theorem r_13_58 (n r : Nat) : rdM 13 n 58 r = vR 107 0 := rfl
theorem r_13_59 (n r : Nat) : rdM 13 n 59 r = vR 108 0 := rfl
theorem r_13_61 (n r : Nat) : rdM 13 n 61 r = vR 109 0 := rfl
theorem r_2_0 (n r : Nat) : rdM 2 n 0 r = vR 10 0 := rfl
theorem r_3_3 (n r : Nat) : rdM 3 n 3 r = vR 35 n := rfl
theorem r_3_5 (n r : Nat) : rdM 3 n 5 r = vR 36 n := rfl
theorem r_3_6 (n r : Nat) : rdM 3 n 6 r = vR 37 n := rfl
theorem r_3_7 (n r : Nat) : rdM 3 n 7 r = vR 38 n := rfl
theorem r_4_0 (n r : Nat) : rdM 4 n 0 r = vR 7 0 := rfl
theorem r_4_1 (n r : Nat) : rdM 4 n 1 r = vR 39 0 := rfl
theorem r_4_6 (n r : Nat) : rdM 4 n 6 r = vR 3 r := rfl
theorem r_42 (n j r : Nat) : rdM 42 n j r = vR 5 (3 + j) := rfl
theorem r_6_0 (n r : Nat) : rdM 6 n 0 r = vR 7 0 := rfl
theorem r_6_1 (n r : Nat) : rdM 6 n 1 r = vR 4 0 := rfl
theorem r_6_2 (n r : Nat) : rdM 6 n 2 r = vR 1 r := rfl
theorem r_6_3 (n r : Nat) : rdM 6 n 3 r = vR 9 r := rfl
theorem r_60 (n j r : Nat) : rdM 60 n j r = vR 5 (9 + j) := rfl
theorem r_61 (n j r : Nat) : rdM 61 n j r = vR 5 (25 + j) := rfl
theorem r_62 (n j r : Nat) : rdM 62 n j r = vR 9 (2 + j) := rfl
theorem r_7_0 (n r : Nat) : rdM 7 n 0 r = vR 40 0 := rfl
theorem r_7_1 (n r : Nat) : rdM 7 n 1 r = vR 41 0 := rfl
theorem r_8_0 (n r : Nat) : rdM 8 n 0 r = vR 2 0 := rfl
theorem r_8_1 (n r : Nat) : rdM 8 n 1 r = vR 5 2 := rfl
theorem r_8_2 (n r : Nat) : rdM 8 n 2 r = vR 42 0 := rfl
theorem r_8_3 (n r : Nat) : rdM 8 n 3 r = vR 43 0 := rfl
theorem r_8_4 (n r : Nat) : rdM 8 n 4 r = vR 44 0 := rfl
theorem r_9_1 (n r : Nat) : rdM 9 n 1 r = vR 45 n := rfl
theorem r_9_2 (n r : Nat) : rdM 9 n 2 r = vR 46 n := rfl
section GX
variable {G : mg} {rd : mrd} {R : Room} {Y : mY} {Z : mZ} {top cells slots pc pc' : Nat} {ls ls' : List (Option mv)} {st : List mv} {M : mm}
theorem g_iincc {i : Nat} {n : Int} {x c : Int32} (hd : iAt Y.2.2.1 pc (.iinc i n) 3 pc') (hx : ls[i]? = some (some (vI x))) (hc : Int32.ofInt n = c) (hn : i < Y.2.2.2.1) (hs : setL ls i (vI (x + c)) = ls') (k : LW G rd R Y Z top cells slots pc' ls' st M) : LW G rd R Y Z top cells slots pc ls st M :=
  g_iinc hd hx (by rw [hc]) hn hs k
theorem g_ldcw {v : Int32} {index : Nat} (hd : iAt Y.2.2.1 pc (.ldc_w index) 3 pc') (hv : Cond.constant Y.1 index v ∈ mGood) (k : LW G rd R Y Z top cells slots pc' ls (vI v :: st) M) : LW G rd R Y Z top cells slots pc ls st M := by
  obtain ⟨hd, rfl⟩ := hd
  intro p e s m args below meth c F H lo la hH hS hL hO
  exact lv_ldcw F.1 F.2.1 F.2.2.2.2.1 (F.2.2.2.2.2.1 _ hv) hd (k p e s m args below meth c F H lo la hH hS hL hO.i)
/-- a whole int array copied into another one of the same length -/
def cpA (M : mm) (ks ns kd nd n : Nat) : mm := (fun k' n' i' => if k' = kd ∧ n' = nd ∧ i' < n then M.1 ks ns i' else M.1 k' n' i', M.2.1, M.2.2)
theorem cpA_row {ks ns kd nd n : Nat} : va_cpy (M.1 ks ns) (M.1 kd nd) 0 0 n = (cpA M ks ns kd nd n).1 kd nd := by
  funext j
  simp only [va_cpy, cpA]
  by_cases h : j < n
  · rw [if_pos ⟨Nat.zero_le _, by omega⟩, if_pos ⟨trivial, trivial, h⟩]; simp
  · rw [if_neg (by omega), if_neg (fun q => h q.2.2)]
theorem mE_cpA {ks ns kd nd n k' n' : Nat} (h : ¬ (k' = kd ∧ n' = nd)) : mE G rd M (k', n') = mE G rd (cpA M ks ns kd nd n) (k', n') := by
  refine mE_ne ?_ rfl rfl
  funext j
  simp only [cpA]
  rw [if_neg (fun q => h ⟨q.1, q.2.1⟩)]
def mCW (own : String) (idx : Nat) : Prop := Cond.methodLink own idx arraycopyName ∈ mGood ∧ Cond.native arraycopyName ∈ mGood ∧ Cond.static arraycopyName ∈ mGood ∧ Cond.initialized "java/lang/System" ∈ mGood
theorem w9_81 : mCW RX9 81 := ⟨mG5 92 rfl rfl, mG5 94 rfl rfl, mG5 93 rfl rfl, mG1 20 rfl rfl⟩
theorem g_copy0 {idx ks ns kd nd len : Nat} {n : Int32} (hd : iAt Y.2.2.1 pc (.invokestatic idx) 3 pc') (hw : mCW Y.1 idx) (hks : kOb ks = none) (has : kAr ks = (0, len)) (hkd : kOb kd = none) (had : kAr kd = (0, len)) (hl : 0 < len ∧ len < 2 ^ 31) (hn : Int32.ofNat len = n) (hR : 1 ≤ R.frames ∧ ((st.map (rv G)).map fun v => v.category).sum + 18 ≤ R.locals)
    (kk : LW G rd R Y Z top cells slots pc' ls st (cpA M ks ns kd nd len)) : LW G rd R Y Z top cells slots pc ls (vI n :: vI 0 :: vR kd nd :: vI 0 :: vR ks ns :: st) M := by
  obtain ⟨hd, rfl⟩ := hd
  intro p e s m args below meth c F H lo la hH hS hL hO
  obtain ⟨hix, hadr⟩ := adr_of (G := G) hH.2.2.1 hO.tl.tl.hd (kAr_ne0 had hl.1)
  obtain ⟨hix0, hadr0⟩ := adr_of (G := G) hH.2.2.1 hO.tl.tl.tl.tl.hd (kAr_ne0 has hl.1)
  have he := mW_at (G := G) (rd := rd) (M := M) hH.2.2.1 hix
  have he0 := mW_at (G := G) (rd := rd) (M := M) hH.2.2.1 hix0
  rw [mE_ai hkd had ⟨by decide, by decide⟩] at he
  rw [mE_ai hks has ⟨by decide, by decide⟩] at he0
  show W _ _ _ _ _ _ _ _ _ _ _ _ _ _ _ (F0 m pc la (Value.int n :: Value.int 0 :: Value.ref (adr G kd nd) :: Value.int 0 :: Value.ref (adr G ks ns) :: st.map (rv G)))
  rw [hadr, hadr0]
  have hz : (0 : Int32).toNatClampNeg = 0 := by decide
  have hnn : n.toNatClampNeg = len := by rw [← hn]; exact nI_clamp hl.2
  refine va_copyi F.1 F.2.1 (F.2.2.2.1.trans hL.1.symm) F.2.2.2.2.1 (F.2.2.2.2.2.1 _ hw.1) (F.2.2.2.2.2.1 _ hw.2.1) (F.2.2.2.2.2.1 _ hw.2.2.1) (F.2.2.2.2.2.1 _ hw.2.2.2) F.2.2.2.2.2.2.2.2.1.1 hH.1 (mW_D G rd M top) hS (mIx ks ns) (mIx kd nd) 0 0 he0 he rfl rfl rfl (by decide) (by decide) (by rw [← hn]; exact nI_pos hl.2) (by rw [hz, hnn]; omega) (by rw [hz, hnn]; omega) (fun _ _ => rfl) hR.1 hR.2 hd (fun H1 lo1 hP1 _ hS1 => ?_)
  rw [hz, hnn, cpA_row, mW_set (M' := cpA M ks ns kd nd len) hH.2.2.1 hix (by rw [mE_ai hkd had ⟨by decide, by decide⟩]) (fun _ _ h => mE_cpA h)] at hP1
  exact kk p e s m args below meth c F H1 lo1 la ⟨hP1, trivial, hH.2.2.1, hH.2.2.2⟩ hS1 hL hO.tl.tl.tl.tl.tl
end GX
def mMW (own : String) (idx : Nat) : Prop := Cond.methodLink own idx Lib.Math.min.name ∈ mGood ∧ Cond.static Lib.Math.min.name ∈ mGood ∧ Cond.initialized "java/lang/Math" ∈ mGood ∧ Cond.code Lib.Math.min.name Lib.Math.min.code 2 (some .int) ∈ mGood
theorem w12_456 : mMW RX12 456 := ⟨mG8 108 rfl rfl, mG8 109 rfl rfl, mG1 18 rfl rfl, mG8 110 rfl rfl⟩
section GX2
variable {G : mg} {rd : mrd} {R : Room} {Y : mY} {Z : mZ} {top cells slots pc pc' : Nat} {ls ls' : List (Option mv)} {st : List mv} {M : mm}
theorem g_min0 {idx : Nat} {x y : Int32} (hd : iAt Y.2.2.1 pc (.invokestatic idx) 3 pc') (hw : mMW Y.1 idx) (hR : 1 ≤ R.frames ∧ ((st.map (rv G)).map fun v => v.category).sum + 13 ≤ R.locals ∧ cells ≤ R.cells ∧ slots ≤ R.slots) (kk : LW G rd R Y Z top cells slots pc' ls (vI (if y < x then y else x) :: st) M) : LW G rd R Y Z top cells slots pc ls (vI y :: vI x :: st) M := by
  obtain ⟨hd, rfl⟩ := hd
  intro p e s m args below meth c F H lo la hH hS hL hO
  exact va_mmin F.1 F.2.1 (F.2.2.2.1.trans hL.1.symm) F.2.2.2.2.1 (F.2.2.2.2.2.1 _ hw.1) (F.2.2.2.2.2.1 _ hw.2.1) (F.2.2.2.2.2.1 _ hw.2.2.1) (F.2.2.2.2.2.1 _ hw.2.2.2) hR.1 hR.2.1 hR.2.2.1 hR.2.2.2 hd (kk p e s m args below meth c F H lo la hH hS hL hO.tl.tl.i)
end GX2
section GY
theorem g_min {G : mg} {d : Nat} {Y : mY} {Z : mZ} {pc pc' : Nat} {ls : List (Option mv)} {st : List mv} {M : mm} {idx : Nat} {x y : Int32} (hd : iAt Y.2.2.1 pc (.invokestatic idx) 3 pc') (hw : mMW Y.1 idx) (h1 : 1 ≤ d) (hs : ((st.map (rv G)).map fun v => v.category).sum ≤ 8) (kk : LM G d Y Z pc' ls (vI (if y < x then y else x) :: st) M) : LM G d Y Z pc ls (vI y :: vI x :: st) M :=
  g_min0 hd hw ⟨h1, by show _ + 13 ≤ 40 * d; omega, Nat.le_refl _, Nat.le_refl _⟩ kk
variable {α : Type} {G : mg} {d : Nat} {Y : mY} {Z : mZ} {pc pc' : Nat} {ls : List (Option mv)} {st : List mv} {M : mm} {o o1 o2 : Option α} {K : α → Prop}
theorem g_copy {idx ks ns kd nd len : Nat} {n : Int32} (hd : iAt Y.2.2.1 pc (.invokestatic idx) 3 pc') (hw : mCW Y.1 idx) (hks : kOb ks = none) (has : kAr ks = (0, len)) (hkd : kOb kd = none) (had : kAr kd = (0, len)) (hl : 0 < len ∧ len < 2 ^ 31) (hn : Int32.ofNat len = n) (hst : st.length = 0) (h1 : 1 ≤ d)
    (kk : LM G d Y Z pc' ls st (cpA M ks ns kd nd len)) : LM G d Y Z pc ls (vI n :: vI 0 :: vR kd nd :: vI 0 :: vR ks ns :: st) M := by
  have h0 : st = [] := List.length_eq_zero_iff.mp hst
  subst h0
  exact g_copy0 hd hw hks has hkd had hl hn ⟨h1, by show 0 + 18 ≤ 40 * d; omega⟩ kk
/-- a divisor that isn't 0 -/
def gq {β : Type} (c : Prop) [Decidable c] (o : Option β) : Option β := if c then none else o
theorem s_gq {pcA : Nat} {lsA : List (Option mv)} {stA : List mv} {MA : mm} {c : Prop} [Decidable c] (h : ¬ c → LM G d Y Z pcA lsA stA MA → LM G d Y Z pc ls st M) (k : SW G d Y Z pcA lsA stA MA o K) : SW G d Y Z pc ls st M (gq c o) K := by
  intro a ho hk
  unfold gq at ho
  by_cases hc : c
  · rw [if_pos hc] at ho; cases ho
  · rw [if_neg hc] at ho; exact h hc (k a ho hk)
theorem s_none : SW G d Y Z pc ls st M (none : Option α) K := fun a h => by cases h
theorem s_ite {c : Prop} [Decidable c] (kt : c → SW G d Y Z pc ls st M o1 K) (kf : ¬ c → SW G d Y Z pc ls st M o2 K) : SW G d Y Z pc ls st M (if c then o1 else o2) K := by
  by_cases h : c
  · rw [if_pos h]; exact kt h
  · rw [if_neg h]; exact kf h
end GY
theorem sw_lo {x v : Int32} {lo : Int} (h : x = v) (hd : ¬ v.toInt < lo) : ¬ x.toInt < lo := h ▸ hd
theorem sw_hi {x v : Int32} {hi : Int} (h : x = v) (hd : ¬ hi < v.toInt) : ¬ hi < x.toInt := h ▸ hd
theorem sw_at {x v : Int32} {lo off : Int} {offs : Array Int} (h : x = v) (hd : offs[(v.toInt - lo).toNat]? = some off) : offs[(x.toInt - lo).toNat]? = some off := h ▸ hd
def swN (x : Int32) : List Int32 → Prop
  | [] => True
  | v :: t => ¬ x = v ∧ swN x t
theorem swN_mem {x : Int32} : ∀ {vs : List Int32}, swN x vs → x ∉ vs
  | [], _ => List.not_mem_nil
  | v :: t, h => fun q => by
    rcases List.mem_cons.mp q with e | e
    · exact h.1 e
    · exact swN_mem h.2 e
theorem sw_out {x : Int32} {lo hi : Int} (vs : List Int32) (hc : ((List.range (hi - lo + 1).toNat).all (fun i => vs.contains (Int32.ofInt (lo + i)))) = true) (h : swN x vs) : x.toInt < lo ∨ hi < x.toInt := by
  by_cases h1 : x.toInt < lo
  · exact Or.inl h1
  by_cases h2 : hi < x.toInt
  · exact Or.inr h2
  exfalso
  have h3 := List.all_eq_true.mp hc (x.toInt - lo).toNat (List.mem_range.mpr (by omega))
  rw [List.contains_iff_mem] at h3
  have h4 : lo + ((x.toInt - lo).toNat : Int) = x.toInt := by omega
  rw [h4, Int32.ofInt_toInt] at h3
  exact swN_mem h h3
theorem sw_lookc {x v : Int32} {ps : List (Int × Int)} {dflt off : Int} (h : x = v) (hd : Op.lookupswitch.offset ps dflt v.toInt = off) : Op.lookupswitch.offset ps dflt x.toInt = off := h ▸ hd
theorem sw_lookd {x : Int32} {ps : List (Int × Int)} {dflt : Int} (vs : List Int32) (hc : ps.map (fun q => Int32.ofInt q.1) = vs) (h : swN x vs) : Op.lookupswitch.offset ps dflt x.toInt = dflt := by
  subst hc
  induction ps with
  | nil => rfl
  | cons q t ih =>
    obtain ⟨a, b⟩ := q
    rw [Op.lookupswitch.offset_cons, if_neg (fun e => h.1 (by show x = Int32.ofInt a; rw [e, Int32.ofInt_toInt]))]
    exact ih h.2

