def i_X2_init_t18 (M : mm) : Option mm :=
  nm (sI M 3 0 0 (5 : Int32)) fun M1 =>
  nm (zM M1 35 0) fun M2 =>
  nm (sR M2 3 0 3 1) fun M3 =>
  nm (zM M3 36 0) fun M4 =>
  nm (sR M4 3 0 5 1) fun M5 =>
  nm (zM M5 37 0) fun M6 =>
  nm (sR M6 3 0 6 1) fun M7 =>
  nm (zM M7 38 0) fun M8 =>
  nm (sR M8 3 0 7 1) fun M9 =>
  some M9
def i_X0_init_t2 (M : mm) : Option mm :=
  nm (zM M 20 0) fun M1 =>
  nm (sR M1 1 0 1 1) fun M2 =>
  nm (zM M2 21 0) fun M3 =>
  nm (sR M3 1 0 2 1) fun M4 =>
  nm (zM M4 22 0) fun M5 =>
  nm (sR M5 1 0 3 1) fun M6 =>
  nm (zM M6 23 0) fun M7 =>
  nm (sR M7 1 0 4 1) fun M8 =>
  nm (zM M8 24 0) fun M9 =>
  nm (sR M9 1 0 6 1) fun M10 =>
  nm (zM M10 25 0) fun M11 =>
  nm (sR M11 1 0 7 1) fun M12 =>
  nm (zM M12 26 0) fun M13 =>
  nm (sR M13 1 0 8 1) fun M14 =>
  nm (zM M14 27 0) fun M15 =>
  nm (sR M15 1 0 9 1) fun M16 =>
  nm (zM M16 28 0) fun M17 =>
  nm (sR M17 1 0 10 1) fun M18 =>
  nm (zM M18 29 0) fun M19 =>
  nm (sR M19 1 0 11 1) fun M20 =>
  nm (zM M20 30 0) fun M21 =>
  nm (sR M21 1 0 14 1) fun M22 =>
  nm (zM M22 31 0) fun M23 =>
  nm (sR M23 1 0 15 1) fun M24 =>
  nm (zM M24 32 0) fun M25 =>
  nm (sR M25 1 0 16 1) fun M26 =>
  nm (zM M26 33 0) fun M27 =>
  nm (sR M27 1 0 17 1) fun M28 =>
  nm (zM M28 34 0) fun M29 =>
  nm (sR M29 1 0 18 1) fun M30 =>
  nm (zM M30 3 0) fun M31 =>
  cv (i_X2_init_t18 M31) fun M32 =>
  nm (sR M32 1 0 19 1) fun M33 =>
  some M33
def i_X2_init_t39 (M : mm) : Option mm :=
  nm (sI M 3 1 0 (5 : Int32)) fun M1 =>
  nm (zM M1 35 1) fun M2 =>
  nm (sR M2 3 1 3 2) fun M3 =>
  nm (zM M3 36 1) fun M4 =>
  nm (sR M4 3 1 5 2) fun M5 =>
  nm (zM M5 37 1) fun M6 =>
  nm (sR M6 3 1 6 2) fun M7 =>
  nm (zM M7 38 1) fun M8 =>
  nm (sR M8 3 1 7 2) fun M9 =>
  some M9
def i_X0_init_t23 (M : mm) : Option mm :=
  nm (zM M 20 1) fun M1 =>
  nm (sR M1 1 1 1 2) fun M2 =>
  nm (zM M2 21 1) fun M3 =>
  nm (sR M3 1 1 2 2) fun M4 =>
  nm (zM M4 22 1) fun M5 =>
  nm (sR M5 1 1 3 2) fun M6 =>
  nm (zM M6 23 1) fun M7 =>
  nm (sR M7 1 1 4 2) fun M8 =>
  nm (zM M8 24 1) fun M9 =>
  nm (sR M9 1 1 6 2) fun M10 =>
  nm (zM M10 25 1) fun M11 =>
  nm (sR M11 1 1 7 2) fun M12 =>
  nm (zM M12 26 1) fun M13 =>
  nm (sR M13 1 1 8 2) fun M14 =>
  nm (zM M14 27 1) fun M15 =>
  nm (sR M15 1 1 9 2) fun M16 =>
  nm (zM M16 28 1) fun M17 =>
  nm (sR M17 1 1 10 2) fun M18 =>
  nm (zM M18 29 1) fun M19 =>
  nm (sR M19 1 1 11 2) fun M20 =>
  nm (zM M20 30 1) fun M21 =>
  nm (sR M21 1 1 14 2) fun M22 =>
  nm (zM M22 31 1) fun M23 =>
  nm (sR M23 1 1 15 2) fun M24 =>
  nm (zM M24 32 1) fun M25 =>
  nm (sR M25 1 1 16 2) fun M26 =>
  nm (zM M26 33 1) fun M27 =>
  nm (sR M27 1 1 17 2) fun M28 =>
  nm (zM M28 34 1) fun M29 =>
  nm (sR M29 1 1 18 2) fun M30 =>
  nm (zM M30 3 1) fun M31 =>
  cv (i_X2_init_t39 M31) fun M32 =>
  nm (sR M32 1 1 19 2) fun M33 =>
  some M33
def i_X8_init_t44 (M : mm) : Option mm :=
  nm (zM M 45 0) fun M1 =>
  nm (sR M1 9 0 1 1) fun M2 =>
  nm (zM M2 46 0) fun M3 =>
  nm (sR M3 9 0 2 1) fun M4 =>
  some M4
def i_X8_init_t47 (M : mm) : Option mm :=
  nm (zM M 45 1) fun M1 =>
  nm (sR M1 9 1 1 2) fun M2 =>
  nm (zM M2 46 1) fun M3 =>
  nm (sR M3 9 1 2 2) fun M4 =>
  some M4
def i_X3_init_t54 (M : mm) : Option mm :=
  nm (zM M 39 0) fun M1 =>
  nm (sR M1 4 0 1 1) fun M2 =>
  nm (sR M2 4 0 0 1) fun M3 =>
  nm (sR M3 4 0 6 2) fun M4 =>
  some M4
def i_X5_init_t53 (M : mm) : Option mm :=
  nm (sR M 6 0 0 1) fun M1 =>
  nm (sR M1 6 0 2 2) fun M2 =>
  nm (sR M2 6 0 3 2) fun M3 =>
  nm (zM M3 4 0) fun M4 =>
  gt (M4.2.2 1 1 19 = 2) <|
  cv (i_X3_init_t54 M4) fun M5 =>
  nm (sR M5 6 0 1 1) fun M6 =>
  some M6
def i_X9_init_t56 (M : mm) : Option mm :=
  nm (zM M 47 0) fun M1 =>
  nm (sR M1 10 0 0 1) fun M2 =>
  nm (zM M2 48 0) fun M3 =>
  nm (sR M3 10 0 1 1) fun M4 =>
  nm (zM M4 49 0) fun M5 =>
  nm (sR M5 10 0 2 1) fun M6 =>
  nm (zM M6 50 0) fun M7 =>
  nm (sR M7 10 0 3 1) fun M8 =>
  nm (zM M8 51 0) fun M9 =>
  nm (sR M9 10 0 4 1) fun M10 =>
  nm (zM M10 52 0) fun M11 =>
  nm (sR M11 10 0 7 1) fun M12 =>
  nm (zM M12 53 0) fun M13 =>
  nm (sR M13 10 0 8 1) fun M14 =>
  nm (zM M14 54 0) fun M15 =>
  nm (sR M15 10 0 9 1) fun M16 =>
  some M16
def i_X1_init_t65 (M : mm) : Option mm :=
  nm (sR M 2 0 0 1) fun M1 =>
  some M1
def i_X4_init (n : Nat) (M : mm) : Option mm :=
  some M
def i_X10_init_t66 (M : mm) : Option mm :=
  nm (zM M 5 0) fun M1 =>
  cv (i_X4_init 0 M1) fun M2 =>
  nm (sR M2 11 0 2 1) fun M3 =>
  nm (zM M3 5 1) fun M4 =>
  cv (i_X4_init 1 M4) fun M5 =>
  nm (sR M5 11 0 3 2) fun M6 =>
  nm (zM M6 55 0) fun M7 =>
  nm (sR M7 11 0 4 1) fun M8 =>
  nm (zM M8 56 0) fun M9 =>
  nm (sR M9 11 0 5 1) fun M10 =>
  nm (zM M10 57 0) fun M11 =>
  nm (sR M11 11 0 9 1) fun M12 =>
  nm (zM M12 58 0) fun M13 =>
  nm (sR M13 11 0 15 1) fun M14 =>
  nm (zM M14 59 0) fun M15 =>
  nm (sR M15 11 0 16 1) fun M16 =>
  nm (sR M16 11 0 0 1) fun M17 =>
  nm (sR M17 11 0 1 1) fun M18 =>
  some M18
def i_X7_init_t74 (M : mm) : Option mm :=
  nm (zM M 5 2) fun M1 =>
  cv (i_X4_init 2 M1) fun M2 =>
  nm (sR M2 8 0 1 3) fun M3 =>
  nm (zM M3 42 0) fun M4 =>
  nm (sR M4 8 0 2 1) fun M5 =>
  nm (zM M5 43 0) fun M6 =>
  nm (sR M6 8 0 3 1) fun M7 =>
  nm (zM M7 44 0) fun M8 =>
  nm (sR M8 8 0 4 1) fun M9 =>
  nm (sR M9 8 0 0 1) fun M10 =>
  gt (M10.2.2 8 0 2 = 1) <|
  gt (M10.2.2 8 0 2 = 1) <|
  nm (zM M10 5 3) fun M11 =>
  cv (i_X4_init 3 M11) fun M12 =>
  nm (sR M12 42 0 (Int32.toNatClampNeg (0 : Int32)) 4) fun M13 =>
  gt (M13.2.2 8 0 2 = 1) <|
  gt (M13.2.2 8 0 2 = 1) <|
  nm (zM M13 5 4) fun M14 =>
  cv (i_X4_init 4 M14) fun M15 =>
  nm (sR M15 42 0 (Int32.toNatClampNeg (1 : Int32)) 5) fun M16 =>
  gt (M16.2.2 8 0 2 = 1) <|
  gt (M16.2.2 8 0 2 = 1) <|
  nm (zM M16 5 5) fun M17 =>
  cv (i_X4_init 5 M17) fun M18 =>
  nm (sR M18 42 0 (Int32.toNatClampNeg (2 : Int32)) 6) fun M19 =>
  gt (M19.2.2 8 0 2 = 1) <|
  gt (M19.2.2 8 0 2 = 1) <|
  nm (zM M19 5 6) fun M20 =>
  cv (i_X4_init 6 M20) fun M21 =>
  nm (sR M21 42 0 (Int32.toNatClampNeg (3 : Int32)) 7) fun M22 =>
  gt (M22.2.2 8 0 2 = 1) <|
  some M22
def i_X8_init_t105 (M : mm) : Option mm :=
  nm (zM M 45 2) fun M1 =>
  nm (sR M1 9 2 1 3) fun M2 =>
  nm (zM M2 46 2) fun M3 =>
  nm (sR M3 9 2 2 3) fun M4 =>
  some M4
def i_X8_init_t109 (M : mm) : Option mm :=
  nm (zM M 45 3) fun M1 =>
  nm (sR M1 9 3 1 4) fun M2 =>
  nm (zM M2 46 3) fun M3 =>
  nm (sR M3 9 3 2 4) fun M4 =>
  some M4
def i_X8_init_t113 (M : mm) : Option mm :=
  nm (zM M 45 4) fun M1 =>
  nm (sR M1 9 4 1 5) fun M2 =>
  nm (zM M2 46 4) fun M3 =>
  nm (sR M3 9 4 2 5) fun M4 =>
  some M4
def i_X8_init_t117 (M : mm) : Option mm :=
  nm (zM M 45 5) fun M1 =>
  nm (sR M1 9 5 1 6) fun M2 =>
  nm (zM M2 46 5) fun M3 =>
  nm (sR M3 9 5 2 6) fun M4 =>
  some M4
def i_X11_init_t1 (M : mm) : Option mm :=
  nm (zM M 1 0) fun M1 =>
  cv (i_X0_init_t2 M1) fun M2 =>
  nm (sR M2 12 0 6 1) fun M3 =>
  nm (zM M3 1 1) fun M4 =>
  cv (i_X0_init_t23 M4) fun M5 =>
  nm (sR M5 12 0 7 2) fun M6 =>
  nm (zM M6 9 0) fun M7 =>
  cv (i_X8_init_t44 M7) fun M8 =>
  nm (sR M8 12 0 10 1) fun M9 =>
  nm (zM M9 9 1) fun M10 =>
  cv (i_X8_init_t47 M10) fun M11 =>
  nm (sR M11 12 0 11 2) fun M12 =>
  nm (zM M12 7 0) fun M13 =>
  cv (i_X6_init_t50 M13) fun M14 =>
  nm (sR M14 12 0 0 1) fun M15 =>
  nm (zM M15 6 0) fun M16 =>
  gt (M16.2.2 12 0 0 = 1) <|
  gt (M16.2.2 12 0 7 = 2) <|
  gt (M16.2.2 12 0 11 = 2) <|
  cv (i_X5_init_t53 M16) fun M17 =>
  nm (sR M17 12 0 1 1) fun M18 =>
  nm (zM M18 10 0) fun M19 =>
  cv (i_X9_init_t56 M19) fun M20 =>
  nm (sR M20 12 0 2 1) fun M21 =>
  nm (zM M21 2 0) fun M22 =>
  gt (M22.2.2 12 0 2 = 1) <|
  cv (i_X1_init_t65 M22) fun M23 =>
  nm (sR M23 12 0 3 1) fun M24 =>
  nm (zM M24 11 0) fun M25 =>
  gt (M25.2.2 12 0 2 = 1) <|
  gt (M25.2.2 12 0 6 = 1) <|
  cv (i_X10_init_t66 M25) fun M26 =>
  nm (sR M26 12 0 4 1) fun M27 =>
  nm (zM M27 8 0) fun M28 =>
  gt (M28.2.2 12 0 3 = 1) <|
  cv (i_X7_init_t74 M28) fun M29 =>
  nm (sR M29 12 0 5 1) fun M30 =>
  nm (zM M30 5 7) fun M31 =>
  cv (i_X4_init 7 M31) fun M32 =>
  nm (sR M32 12 0 8 8) fun M33 =>
  nm (zM M33 5 8) fun M34 =>
  cv (i_X4_init 8 M34) fun M35 =>
  nm (sR M35 12 0 9 9) fun M36 =>
  nm (zM M36 60 0) fun M37 =>
  nm (sR M37 12 0 12 1) fun M38 =>
  gt (M38.2.2 12 0 12 = 1) <|
  nm (zM M38 5 9) fun M39 =>
  cv (i_X4_init 9 M39) fun M40 =>
  nm (sR M40 60 0 (Int32.toNatClampNeg (0 : Int32)) 10) fun M41 =>
  gt (M41.2.2 12 0 12 = 1) <|
  nm (zM M41 5 10) fun M42 =>
  cv (i_X4_init 10 M42) fun M43 =>
  nm (sR M43 60 0 (Int32.toNatClampNeg (1 : Int32)) 11) fun M44 =>
  gt (M44.2.2 12 0 12 = 1) <|
  nm (zM M44 5 11) fun M45 =>
  cv (i_X4_init 11 M45) fun M46 =>
  nm (sR M46 60 0 (Int32.toNatClampNeg (2 : Int32)) 12) fun M47 =>
  gt (M47.2.2 12 0 12 = 1) <|
  nm (zM M47 5 12) fun M48 =>
  cv (i_X4_init 12 M48) fun M49 =>
  nm (sR M49 60 0 (Int32.toNatClampNeg (3 : Int32)) 13) fun M50 =>
  gt (M50.2.2 12 0 12 = 1) <|
  nm (zM M50 5 13) fun M51 =>
  cv (i_X4_init 13 M51) fun M52 =>
  nm (sR M52 60 0 (Int32.toNatClampNeg (4 : Int32)) 14) fun M53 =>
  gt (M53.2.2 12 0 12 = 1) <|
  nm (zM M53 5 14) fun M54 =>
  cv (i_X4_init 14 M54) fun M55 =>
  nm (sR M55 60 0 (Int32.toNatClampNeg (5 : Int32)) 15) fun M56 =>
  gt (M56.2.2 12 0 12 = 1) <|
  nm (zM M56 5 15) fun M57 =>
  cv (i_X4_init 15 M57) fun M58 =>
  nm (sR M58 60 0 (Int32.toNatClampNeg (6 : Int32)) 16) fun M59 =>
  gt (M59.2.2 12 0 12 = 1) <|
  nm (zM M59 5 16) fun M60 =>
  cv (i_X4_init 16 M60) fun M61 =>
  nm (sR M61 60 0 (Int32.toNatClampNeg (7 : Int32)) 17) fun M62 =>
  gt (M62.2.2 12 0 12 = 1) <|
  nm (zM M62 5 17) fun M63 =>
  cv (i_X4_init 17 M63) fun M64 =>
  nm (sR M64 60 0 (Int32.toNatClampNeg (8 : Int32)) 18) fun M65 =>
  gt (M65.2.2 12 0 12 = 1) <|
  nm (zM M65 5 18) fun M66 =>
  cv (i_X4_init 18 M66) fun M67 =>
  nm (sR M67 60 0 (Int32.toNatClampNeg (9 : Int32)) 19) fun M68 =>
  gt (M68.2.2 12 0 12 = 1) <|
  nm (zM M68 5 19) fun M69 =>
  cv (i_X4_init 19 M69) fun M70 =>
  nm (sR M70 60 0 (Int32.toNatClampNeg (10 : Int32)) 20) fun M71 =>
  gt (M71.2.2 12 0 12 = 1) <|
  nm (zM M71 5 20) fun M72 =>
  cv (i_X4_init 20 M72) fun M73 =>
  nm (sR M73 60 0 (Int32.toNatClampNeg (11 : Int32)) 21) fun M74 =>
  gt (M74.2.2 12 0 12 = 1) <|
  nm (zM M74 5 21) fun M75 =>
  cv (i_X4_init 21 M75) fun M76 =>
  nm (sR M76 60 0 (Int32.toNatClampNeg (12 : Int32)) 22) fun M77 =>
  gt (M77.2.2 12 0 12 = 1) <|
  nm (zM M77 5 22) fun M78 =>
  cv (i_X4_init 22 M78) fun M79 =>
  nm (sR M79 60 0 (Int32.toNatClampNeg (13 : Int32)) 23) fun M80 =>
  gt (M80.2.2 12 0 12 = 1) <|
  nm (zM M80 5 23) fun M81 =>
  cv (i_X4_init 23 M81) fun M82 =>
  nm (sR M82 60 0 (Int32.toNatClampNeg (14 : Int32)) 24) fun M83 =>
  gt (M83.2.2 12 0 12 = 1) <|
  nm (zM M83 5 24) fun M84 =>
  cv (i_X4_init 24 M84) fun M85 =>
  nm (sR M85 60 0 (Int32.toNatClampNeg (15 : Int32)) 25) fun M86 =>
  nm (zM M86 61 0) fun M87 =>
  nm (sR M87 12 0 15 1) fun M88 =>
  nm (zM M88 62 0) fun M89 =>
  nm (sR M89 12 0 16 1) fun M90 =>
  gt (M90.2.2 12 0 15 = 1) <|
  nm (zM M90 5 25) fun M91 =>
  cv (i_X4_init 25 M91) fun M92 =>
  nm (sR M92 61 0 (Int32.toNatClampNeg (0 : Int32)) 26) fun M93 =>
  gt (M93.2.2 12 0 16 = 1) <|
  nm (zM M93 9 2) fun M94 =>
  cv (i_X8_init_t105 M94) fun M95 =>
  nm (sR M95 62 0 (Int32.toNatClampNeg (0 : Int32)) 3) fun M96 =>
  gt (M96.2.2 12 0 15 = 1) <|
  nm (zM M96 5 26) fun M97 =>
  cv (i_X4_init 26 M97) fun M98 =>
  nm (sR M98 61 0 (Int32.toNatClampNeg (1 : Int32)) 27) fun M99 =>
  gt (M99.2.2 12 0 16 = 1) <|
  nm (zM M99 9 3) fun M100 =>
  cv (i_X8_init_t109 M100) fun M101 =>
  nm (sR M101 62 0 (Int32.toNatClampNeg (1 : Int32)) 4) fun M102 =>
  gt (M102.2.2 12 0 15 = 1) <|
  nm (zM M102 5 27) fun M103 =>
  cv (i_X4_init 27 M103) fun M104 =>
  nm (sR M104 61 0 (Int32.toNatClampNeg (2 : Int32)) 28) fun M105 =>
  gt (M105.2.2 12 0 16 = 1) <|
  nm (zM M105 9 4) fun M106 =>
  cv (i_X8_init_t113 M106) fun M107 =>
  nm (sR M107 62 0 (Int32.toNatClampNeg (2 : Int32)) 5) fun M108 =>
  gt (M108.2.2 12 0 15 = 1) <|
  nm (zM M108 5 28) fun M109 =>
  cv (i_X4_init 28 M109) fun M110 =>
  nm (sR M110 61 0 (Int32.toNatClampNeg (3 : Int32)) 29) fun M111 =>
  gt (M111.2.2 12 0 16 = 1) <|
  nm (zM M111 9 5) fun M112 =>
  cv (i_X8_init_t117 M112) fun M113 =>
  nm (sR M113 62 0 (Int32.toNatClampNeg (3 : Int32)) 6) fun M114 =>
  some M114
def i_X12_plain_t167 (M : mm) : Option mm :=
  gt (M.2.2 13 0 10 = 1) <|
  nm (sI M 64 0 (Int32.toNatClampNeg (0 : Int32)) (0 : Int32)) fun M1 =>
  gt (M1.2.2 13 0 10 = 1) <|
  nm (sI M1 64 0 (Int32.toNatClampNeg (1 : Int32)) (0 : Int32)) fun M2 =>
  gt (M2.2.2 13 0 10 = 1) <|
  nm (sI M2 64 0 (Int32.toNatClampNeg (2 : Int32)) (0 : Int32)) fun M3 =>
  gt (M3.2.2 13 0 10 = 1) <|
  nm (sI M3 64 0 (Int32.toNatClampNeg (3 : Int32)) (0 : Int32)) fun M4 =>
  gt (M4.2.2 13 0 10 = 1) <|
  nm (sI M4 64 0 (Int32.toNatClampNeg (4 : Int32)) (0 : Int32)) fun M5 =>
  gt (M5.2.2 13 0 10 = 1) <|
  nm (sI M5 64 0 (Int32.toNatClampNeg (5 : Int32)) (0 : Int32)) fun M6 =>
  gt (M6.2.2 13 0 10 = 1) <|
  nm (sI M6 64 0 (Int32.toNatClampNeg (3 : Int32)) (5 : Int32)) fun M7 =>
  gt (M7.2.2 13 0 25 = 1) <|
  nm (sI M7 79 0 (Int32.toNatClampNeg (0 : Int32)) (0 : Int32)) fun M8 =>
  gt (M8.2.2 13 0 26 = 1) <|
  nm (sI M8 80 0 (Int32.toNatClampNeg (0 : Int32)) (0 : Int32)) fun M9 =>
  some M9
def i_X12_init_t120 (M : mm) : Option mm :=
  nm (zM M 63 0) fun M1 =>
  nm (sR M1 13 0 2 1) fun M2 =>
  nm (zM M2 64 0) fun M3 =>
  nm (sR M3 13 0 10 1) fun M4 =>
  nm (zM M4 65 0) fun M5 =>
  nm (sR M5 13 0 11 1) fun M6 =>
  nm (zM M6 66 0) fun M7 =>
  nm (sR M7 13 0 12 1) fun M8 =>
  nm (zM M8 67 0) fun M9 =>
  nm (sR M9 13 0 13 1) fun M10 =>
  nm (zM M10 68 0) fun M11 =>
  nm (sR M11 13 0 14 1) fun M12 =>
  nm (zM M12 69 0) fun M13 =>
  nm (sR M13 13 0 15 1) fun M14 =>
  nm (zM M14 70 0) fun M15 =>
  nm (sR M15 13 0 16 1) fun M16 =>
  nm (zM M16 71 0) fun M17 =>
  nm (sR M17 13 0 17 1) fun M18 =>
  nm (zM M18 72 0) fun M19 =>
  nm (sR M19 13 0 18 1) fun M20 =>
  nm (zM M20 73 0) fun M21 =>
  nm (sR M21 13 0 19 1) fun M22 =>
  nm (zM M22 74 0) fun M23 =>
  nm (sR M23 13 0 20 1) fun M24 =>
  nm (zM M24 75 0) fun M25 =>
  nm (sR M25 13 0 21 1) fun M26 =>
  nm (zM M26 76 0) fun M27 =>
  nm (sR M27 13 0 22 1) fun M28 =>
  nm (zM M28 77 0) fun M29 =>
  nm (sR M29 13 0 23 1) fun M30 =>
  nm (zM M30 78 0) fun M31 =>
  nm (sR M31 13 0 24 1) fun M32 =>
  nm (zM M32 79 0) fun M33 =>
  nm (sR M33 13 0 25 1) fun M34 =>
  nm (zM M34 80 0) fun M35 =>
  nm (sR M35 13 0 26 1) fun M36 =>
  nm (zM M36 81 0) fun M37 =>
  nm (sR M37 13 0 27 1) fun M38 =>
  nm (zM M38 82 0) fun M39 =>
  nm (sR M39 13 0 30 1) fun M40 =>
  nm (zM M40 83 0) fun M41 =>
  nm (sR M41 13 0 31 1) fun M42 =>
  nm (zM M42 84 0) fun M43 =>
  nm (sR M43 13 0 32 1) fun M44 =>
  nm (zM M44 85 0) fun M45 =>
  nm (sR M45 13 0 33 1) fun M46 =>
  nm (zM M46 86 0) fun M47 =>
  nm (sR M47 13 0 34 1) fun M48 =>
  nm (zM M48 87 0) fun M49 =>
  nm (sR M49 13 0 35 1) fun M50 =>
  nm (zM M50 88 0) fun M51 =>
  nm (sR M51 13 0 36 1) fun M52 =>
  nm (zM M52 89 0) fun M53 =>
  nm (sR M53 13 0 37 1) fun M54 =>
  nm (zM M54 90 0) fun M55 =>
  nm (sR M55 13 0 38 1) fun M56 =>
  nm (zM M56 91 0) fun M57 =>
  nm (sR M57 13 0 39 1) fun M58 =>
  nm (zM M58 92 0) fun M59 =>
  nm (sR M59 13 0 40 1) fun M60 =>
  nm (zM M60 93 0) fun M61 =>
  nm (sR M61 13 0 41 1) fun M62 =>
  nm (zM M62 94 0) fun M63 =>
  nm (sR M63 13 0 43 1) fun M64 =>
  nm (zM M64 95 0) fun M65 =>
  nm (sR M65 13 0 44 1) fun M66 =>
  nm (zM M66 96 0) fun M67 =>
  nm (sR M67 13 0 45 1) fun M68 =>
  nm (zM M68 97 0) fun M69 =>
  nm (sR M69 13 0 46 1) fun M70 =>
  nm (zM M70 98 0) fun M71 =>
  nm (sR M71 13 0 47 1) fun M72 =>
  nm (zM M72 99 0) fun M73 =>
  nm (sR M73 13 0 48 1) fun M74 =>
  nm (zM M74 100 0) fun M75 =>
  nm (sR M75 13 0 49 1) fun M76 =>
  nm (zM M76 101 0) fun M77 =>
  nm (sR M77 13 0 50 1) fun M78 =>
  nm (zM M78 102 0) fun M79 =>
  nm (sR M79 13 0 51 1) fun M80 =>
  nm (zM M80 103 0) fun M81 =>
  nm (sR M81 13 0 52 1) fun M82 =>
  nm (zM M82 104 0) fun M83 =>
  nm (sR M83 13 0 53 1) fun M84 =>
  nm (zM M84 105 0) fun M85 =>
  nm (sR M85 13 0 55 1) fun M86 =>
  nm (zM M86 106 0) fun M87 =>
  nm (sR M87 13 0 56 1) fun M88 =>
  nm (zM M88 107 0) fun M89 =>
  nm (sR M89 13 0 58 1) fun M90 =>
  nm (zM M90 108 0) fun M91 =>
  nm (sR M91 13 0 59 1) fun M92 =>
  nm (zM M92 109 0) fun M93 =>
  nm (sR M93 13 0 61 1) fun M94 =>
  cv (i_X12_plain_t167 M94) fun M95 =>
  some M95
set_option maxHeartbeats 40000000 in
set_option maxRecDepth 20000 in
theorem j_X2_init_t18 {G : mg} {M M' : mm} (d : Nat) (h : i_X2_init_t18 M = some M') : CT G rdC yX2_init cX2_init 1 none (some 18) (d + 1) 4 1104 18 22 [vR 3 0] M none M' := by
  refine cc_v (ls := [some (vR 3 0)]) rfl rfl (Nat.le_of_ble_eq_true rfl) (fun Z => ?_) h
  show SG G rdC (mRm (d + 1) 4 1104) (RX2, "<init>", cX2_init, 1, none, some 18) Z 18 0 0 0 [some (vR 3 0)] [] M _ _
  unfold i_X2_init_t18
  refine q_step (g_aload_n (iRow iCX2_init_0 0 rfl) rfl rfl) ?_
  refine q_step (g_objI (iRow iCX2_init_0 1 rfl) o2_3 ⟨by show 1 ≤ d + 1; omega, by show 20 ≤ 40 * (d + 1); omega⟩ (Nat.le_of_ble_eq_true rfl)) ?_
  refine q_step (g_aload_n (iRow iCX2_init_0 2 rfl) rfl rfl) ?_
  refine q_step (g_iconst (iRow iCX2_init_0 3 rfl) kc_5) ?_
  refine q_step (g_putI (iRow iCX2_init_0 4 rfl) f2_11 (Or.inl rfl) ko_3) ?_
  refine q_nmM (fun M1 => ?_)
  refine q_step (g_aload_n (iRow iCX2_init_0 5 rfl) rfl rfl) ?_
  refine q_step (g_sipush (iRow iCX2_init_0 6 rfl) ks_1000) ?_
  refine q_step (topA := 19) (cellsA := 1) (slotsA := 1000) (fun hh => g_newi (t0 := 18) (n := 0) (iRow iCX2_init_0 7 rfl) ac_int kn_35 ka_35 (by decide) kl_1000 rfl rfl rfl ⟨(by show _ ≤ 4; decide), (by show _ ≤ 1104; decide)⟩ hh) ?_
  refine q_nmM (fun M2 => ?_)
  refine q_step (g_putR (r := 1) (iRow iCX2_init_0 8 rfl) f2_17 (Or.inr ⟨rfl, rfl⟩) ko_3 rfl) ?_
  refine q_nmM (fun M3 => ?_)
  refine q_step (g_aload_n (iRow iCX2_init_0 9 rfl) rfl rfl) ?_
  refine q_step (g_bipush (iRow iCX2_init_0 10 rfl) kb_64) ?_
  refine q_step (topA := 20) (cellsA := 2) (slotsA := 1064) (fun hh => g_newi (t0 := 18) (n := 0) (iRow iCX2_init_0 11 rfl) ac_int kn_36 ka_36 (by decide) kl_64 rfl rfl rfl ⟨(by show _ ≤ 4; decide), (by show _ ≤ 1104; decide)⟩ hh) ?_
  refine q_nmM (fun M4 => ?_)
  refine q_step (g_putR (r := 1) (iRow iCX2_init_0 12 rfl) f2_21 (Or.inr ⟨rfl, rfl⟩) ko_3 rfl) ?_
  refine q_nmM (fun M5 => ?_)
  refine q_step (g_aload_n (iRow iCX2_init_0 13 rfl) rfl rfl) ?_
  refine q_step (g_bipush (iRow iCX2_init_0 14 rfl) kb_20) ?_
  refine q_step (topA := 21) (cellsA := 3) (slotsA := 1084) (fun hh => g_newi (t0 := 18) (n := 0) (iRow iCX2_init_0 15 rfl) ac_int kn_37 ka_37 (by decide) kl_20 rfl rfl rfl ⟨(by show _ ≤ 4; decide), (by show _ ≤ 1104; decide)⟩ hh) ?_
  refine q_nmM (fun M6 => ?_)
  refine q_step (g_putR (r := 1) (iRow iCX2_init_0 16 rfl) f2_24 (Or.inr ⟨rfl, rfl⟩) ko_3 rfl) ?_
  refine q_nmM (fun M7 => ?_)
  refine q_step (g_aload_n (iRow iCX2_init_0 17 rfl) rfl rfl) ?_
  refine q_step (g_bipush (iRow iCX2_init_0 18 rfl) kb_20) ?_
  refine q_step (topA := 22) (cellsA := 4) (slotsA := 1104) (fun hh => g_newi (t0 := 18) (n := 0) (iRow iCX2_init_0 19 rfl) ac_int kn_38 ka_38 (by decide) kl_20 rfl rfl rfl ⟨(by show _ ≤ 4; decide), (by show _ ≤ 1104; decide)⟩ hh) ?_
  refine q_nmM (fun M8 => ?_)
  refine q_step (g_putR (r := 1) (iRow iCX2_init_0 20 rfl) f2_27 (Or.inr ⟨rfl, rfl⟩) ko_3 rfl) ?_
  refine q_nmM (fun M9 => ?_)
  exact q_retv (iRow iCX2_init_0 21 rfl) rfl
set_option maxHeartbeats 40000000 in
set_option maxRecDepth 20000 in
theorem j_X0_init_t2 {G : mg} {M M' : mm} (d : Nat) (h : i_X0_init_t2 M = some M') : CT G rdC yX0_init cX0_init 1 none (some 2) (d + 2) 20 1246 2 22 [vR 1 0] M none M' := by
  refine cc_v (ls := [some (vR 1 0)]) rfl rfl (Nat.le_of_ble_eq_true rfl) (fun Z => ?_) h
  show SG G rdC (mRm (d + 2) 20 1246) (RX0, "<init>", cX0_init, 1, none, some 2) Z 2 0 0 0 [some (vR 1 0)] [] M _ _
  unfold i_X0_init_t2
  refine q_step (g_aload_n (iRow iCX0_init_0 0 rfl) rfl rfl) ?_
  refine q_step (g_objI (iRow iCX0_init_0 1 rfl) o0_3 ⟨by show 1 ≤ d + 2; omega, by show 20 ≤ 40 * (d + 2); omega⟩ (Nat.le_of_ble_eq_true rfl)) ?_
  refine q_step (g_aload_n (iRow iCX0_init_0 2 rfl) rfl rfl) ?_
  refine q_step (g_bipush (iRow iCX0_init_0 3 rfl) kb_6) ?_
  refine q_step (topA := 3) (cellsA := 1) (slotsA := 6) (fun hh => g_newl (t0 := 2) (n := 0) (iRow iCX0_init_0 4 rfl) ac_long kn_20 ka_20 (by decide) kl_6 rfl rfl rfl ⟨(by show _ ≤ 20; decide), (by show _ ≤ 1246; decide)⟩ hh) ?_
  refine q_nmM (fun M1 => ?_)
  refine q_step (g_putR (r := 1) (iRow iCX0_init_0 5 rfl) f0_9 (Or.inr ⟨rfl, rfl⟩) ko_1 rfl) ?_
  refine q_nmM (fun M2 => ?_)
  refine q_step (g_aload_n (iRow iCX0_init_0 6 rfl) rfl rfl) ?_
  refine q_step (g_bipush (iRow iCX0_init_0 7 rfl) kb_6) ?_
  refine q_step (topA := 4) (cellsA := 2) (slotsA := 12) (fun hh => g_newi (t0 := 2) (n := 0) (iRow iCX0_init_0 8 rfl) ac_int kn_21 ka_21 (by decide) kl_6 rfl rfl rfl ⟨(by show _ ≤ 20; decide), (by show _ ≤ 1246; decide)⟩ hh) ?_
  refine q_nmM (fun M3 => ?_)
  refine q_step (g_putR (r := 1) (iRow iCX0_init_0 9 rfl) f0_15 (Or.inr ⟨rfl, rfl⟩) ko_1 rfl) ?_
  refine q_nmM (fun M4 => ?_)
  refine q_step (g_aload_n (iRow iCX0_init_0 10 rfl) rfl rfl) ?_
  refine q_step (g_bipush (iRow iCX0_init_0 11 rfl) kb_6) ?_
  refine q_step (topA := 5) (cellsA := 3) (slotsA := 18) (fun hh => g_newi (t0 := 2) (n := 0) (iRow iCX0_init_0 12 rfl) ac_int kn_22 ka_22 (by decide) kl_6 rfl rfl rfl ⟨(by show _ ≤ 20; decide), (by show _ ≤ 1246; decide)⟩ hh) ?_
  refine q_nmM (fun M5 => ?_)
  refine q_step (g_putR (r := 1) (iRow iCX0_init_0 13 rfl) f0_19 (Or.inr ⟨rfl, rfl⟩) ko_1 rfl) ?_
  refine q_nmM (fun M6 => ?_)
  refine q_step (g_aload_n (iRow iCX0_init_0 14 rfl) rfl rfl) ?_
  refine q_step (g_bipush (iRow iCX0_init_0 15 rfl) kb_6) ?_
  refine q_step (topA := 6) (cellsA := 4) (slotsA := 24) (fun hh => g_newi (t0 := 2) (n := 0) (iRow iCX0_init_0 16 rfl) ac_int kn_23 ka_23 (by decide) kl_6 rfl rfl rfl ⟨(by show _ ≤ 20; decide), (by show _ ≤ 1246; decide)⟩ hh) ?_
  refine q_nmM (fun M7 => ?_)
  refine q_step (g_putR (r := 1) (iRow iCX0_init_0 17 rfl) f0_22 (Or.inr ⟨rfl, rfl⟩) ko_1 rfl) ?_
  refine q_nmM (fun M8 => ?_)
  refine q_step (g_aload_n (iRow iCX0_init_0 18 rfl) rfl rfl) ?_
  refine q_step (g_bipush (iRow iCX0_init_0 19 rfl) kb_10) ?_
  refine q_step (topA := 7) (cellsA := 5) (slotsA := 34) (fun hh => g_newl (t0 := 2) (n := 0) (iRow iCX0_init_0 20 rfl) ac_long kn_24 ka_24 (by decide) kl_10 rfl rfl rfl ⟨(by show _ ≤ 20; decide), (by show _ ≤ 1246; decide)⟩ hh) ?_
  refine q_nmM (fun M9 => ?_)
  refine q_step (g_putR (r := 1) (iRow iCX0_init_0 21 rfl) f0_25 (Or.inr ⟨rfl, rfl⟩) ko_1 rfl) ?_
  refine q_nmM (fun M10 => ?_)
  refine q_step (g_aload_n (iRow iCX0_init_0 22 rfl) rfl rfl) ?_
  refine q_step (g_bipush (iRow iCX0_init_0 23 rfl) kb_10) ?_
  refine q_step (topA := 8) (cellsA := 6) (slotsA := 44) (fun hh => g_newi (t0 := 2) (n := 0) (iRow iCX0_init_1 0 rfl) ac_int kn_25 ka_25 (by decide) kl_10 rfl rfl rfl ⟨(by show _ ≤ 20; decide), (by show _ ≤ 1246; decide)⟩ hh) ?_
  refine q_nmM (fun M11 => ?_)
  refine q_step (g_putR (r := 1) (iRow iCX0_init_1 1 rfl) f0_28 (Or.inr ⟨rfl, rfl⟩) ko_1 rfl) ?_
  refine q_nmM (fun M12 => ?_)
  refine q_step (g_aload_n (iRow iCX0_init_1 2 rfl) rfl rfl) ?_
  refine q_step (g_bipush (iRow iCX0_init_1 3 rfl) kb_10) ?_
  refine q_step (topA := 9) (cellsA := 7) (slotsA := 54) (fun hh => g_newi (t0 := 2) (n := 0) (iRow iCX0_init_1 4 rfl) ac_int kn_26 ka_26 (by decide) kl_10 rfl rfl rfl ⟨(by show _ ≤ 20; decide), (by show _ ≤ 1246; decide)⟩ hh) ?_
  refine q_nmM (fun M13 => ?_)
  refine q_step (g_putR (r := 1) (iRow iCX0_init_1 5 rfl) f0_31 (Or.inr ⟨rfl, rfl⟩) ko_1 rfl) ?_
  refine q_nmM (fun M14 => ?_)
  refine q_step (g_aload_n (iRow iCX0_init_1 6 rfl) rfl rfl) ?_
  refine q_step (g_bipush (iRow iCX0_init_1 7 rfl) kb_10) ?_
  refine q_step (topA := 10) (cellsA := 8) (slotsA := 64) (fun hh => g_newi (t0 := 2) (n := 0) (iRow iCX0_init_1 8 rfl) ac_int kn_27 ka_27 (by decide) kl_10 rfl rfl rfl ⟨(by show _ ≤ 20; decide), (by show _ ≤ 1246; decide)⟩ hh) ?_
  refine q_nmM (fun M15 => ?_)
  refine q_step (g_putR (r := 1) (iRow iCX0_init_1 9 rfl) f0_34 (Or.inr ⟨rfl, rfl⟩) ko_1 rfl) ?_
  refine q_nmM (fun M16 => ?_)
  refine q_step (g_aload_n (iRow iCX0_init_1 10 rfl) rfl rfl) ?_
  refine q_step (g_bipush (iRow iCX0_init_1 11 rfl) kb_10) ?_
  refine q_step (topA := 11) (cellsA := 9) (slotsA := 74) (fun hh => g_newi (t0 := 2) (n := 0) (iRow iCX0_init_1 12 rfl) ac_int kn_28 ka_28 (by decide) kl_10 rfl rfl rfl ⟨(by show _ ≤ 20; decide), (by show _ ≤ 1246; decide)⟩ hh) ?_
  refine q_nmM (fun M17 => ?_)
  refine q_step (g_putR (r := 1) (iRow iCX0_init_1 13 rfl) f0_37 (Or.inr ⟨rfl, rfl⟩) ko_1 rfl) ?_
  refine q_nmM (fun M18 => ?_)
  refine q_step (g_aload_n (iRow iCX0_init_1 14 rfl) rfl rfl) ?_
  refine q_step (g_bipush (iRow iCX0_init_1 15 rfl) kb_10) ?_
  refine q_step (topA := 12) (cellsA := 10) (slotsA := 84) (fun hh => g_newi (t0 := 2) (n := 0) (iRow iCX0_init_1 16 rfl) ac_int kn_29 ka_29 (by decide) kl_10 rfl rfl rfl ⟨(by show _ ≤ 20; decide), (by show _ ≤ 1246; decide)⟩ hh) ?_
  refine q_nmM (fun M19 => ?_)
  refine q_step (g_putR (r := 1) (iRow iCX0_init_1 17 rfl) f0_40 (Or.inr ⟨rfl, rfl⟩) ko_1 rfl) ?_
  refine q_nmM (fun M20 => ?_)
  refine q_step (g_aload_n (iRow iCX0_init_1 18 rfl) rfl rfl) ?_
  refine q_step (g_bipush (iRow iCX0_init_1 19 rfl) kb_10) ?_
  refine q_step (topA := 13) (cellsA := 11) (slotsA := 94) (fun hh => g_newl (t0 := 2) (n := 0) (iRow iCX0_init_1 20 rfl) ac_long kn_30 ka_30 (by decide) kl_10 rfl rfl rfl ⟨(by show _ ≤ 20; decide), (by show _ ≤ 1246; decide)⟩ hh) ?_
  refine q_nmM (fun M21 => ?_)
  refine q_step (g_putR (r := 1) (iRow iCX0_init_1 21 rfl) f0_43 (Or.inr ⟨rfl, rfl⟩) ko_1 rfl) ?_
  refine q_nmM (fun M22 => ?_)
  refine q_step (g_aload_n (iRow iCX0_init_1 22 rfl) rfl rfl) ?_
  refine q_step (g_bipush (iRow iCX0_init_1 23 rfl) kb_10) ?_
  refine q_step (topA := 14) (cellsA := 12) (slotsA := 104) (fun hh => g_newi (t0 := 2) (n := 0) (iRow iCX0_init_2 0 rfl) ac_int kn_31 ka_31 (by decide) kl_10 rfl rfl rfl ⟨(by show _ ≤ 20; decide), (by show _ ≤ 1246; decide)⟩ hh) ?_
  refine q_nmM (fun M23 => ?_)
  refine q_step (g_putR (r := 1) (iRow iCX0_init_2 1 rfl) f0_46 (Or.inr ⟨rfl, rfl⟩) ko_1 rfl) ?_
  refine q_nmM (fun M24 => ?_)
  refine q_step (g_aload_n (iRow iCX0_init_2 2 rfl) rfl rfl) ?_
  refine q_step (g_bipush (iRow iCX0_init_2 3 rfl) kb_10) ?_
  refine q_step (topA := 15) (cellsA := 13) (slotsA := 114) (fun hh => g_newi (t0 := 2) (n := 0) (iRow iCX0_init_2 4 rfl) ac_int kn_32 ka_32 (by decide) kl_10 rfl rfl rfl ⟨(by show _ ≤ 20; decide), (by show _ ≤ 1246; decide)⟩ hh) ?_
  refine q_nmM (fun M25 => ?_)
  refine q_step (g_putR (r := 1) (iRow iCX0_init_2 5 rfl) f0_49 (Or.inr ⟨rfl, rfl⟩) ko_1 rfl) ?_
  refine q_nmM (fun M26 => ?_)
  refine q_step (g_aload_n (iRow iCX0_init_2 6 rfl) rfl rfl) ?_
  refine q_step (g_bipush (iRow iCX0_init_2 7 rfl) kb_10) ?_
  refine q_step (topA := 16) (cellsA := 14) (slotsA := 124) (fun hh => g_newi (t0 := 2) (n := 0) (iRow iCX0_init_2 8 rfl) ac_int kn_33 ka_33 (by decide) kl_10 rfl rfl rfl ⟨(by show _ ≤ 20; decide), (by show _ ≤ 1246; decide)⟩ hh) ?_
  refine q_nmM (fun M27 => ?_)
  refine q_step (g_putR (r := 1) (iRow iCX0_init_2 9 rfl) f0_52 (Or.inr ⟨rfl, rfl⟩) ko_1 rfl) ?_
  refine q_nmM (fun M28 => ?_)
  refine q_step (g_aload_n (iRow iCX0_init_2 10 rfl) rfl rfl) ?_
  refine q_step (g_bipush (iRow iCX0_init_2 11 rfl) kb_10) ?_
  refine q_step (topA := 17) (cellsA := 15) (slotsA := 134) (fun hh => g_newi (t0 := 2) (n := 0) (iRow iCX0_init_2 12 rfl) ac_int kn_34 ka_34 (by decide) kl_10 rfl rfl rfl ⟨(by show _ ≤ 20; decide), (by show _ ≤ 1246; decide)⟩ hh) ?_
  refine q_nmM (fun M29 => ?_)
  refine q_step (g_putR (r := 1) (iRow iCX0_init_2 13 rfl) f0_55 (Or.inr ⟨rfl, rfl⟩) ko_1 rfl) ?_
  refine q_nmM (fun M30 => ?_)
  refine q_step (g_aload_n (iRow iCX0_init_2 14 rfl) rfl rfl) ?_
  refine q_step (topA := 18) (cellsA := 16) (slotsA := 142) (fun hh => g_new (t0 := 2) (N := 8) (n := 0) (iRow iCX0_init_2 15 rfl) n0_58 rfl ko_3 rfl rfl rfl ⟨(by show _ ≤ 20; decide), (by show _ ≤ 1246; decide)⟩ hh) ?_
  refine q_nmM (fun M31 => ?_)
  refine q_step (g_dup (iRow iCX0_init_2 16 rfl) rfl) ?_
  refine q_cv (topA := 22) (cellsA := 20) (slotsA := 1246) (stA := [vR 3 0, vR 1 0]) (fun _ h hh => g_callIN (As := []) (r := none) (iRow iCX0_init_2 17 rfl) z0_60 ii_X2_init rfl rfl (j_X2_init_t18 (d + 0) h) ⟨by show _ + 1 ≤ d + 2; omega, by show 8 + (1 + 11) + 40 * _ ≤ 40 * (d + 2); omega⟩ (Nat.le_of_ble_eq_true rfl) ⟨(by show _ ≤ 20; decide), (by show _ ≤ 1246; decide)⟩ (mAl_some rfl rfl rfl) (by decide) hh) (fun M32 => ?_)
  refine q_step (g_putR (r := 1) (iRow iCX0_init_2 18 rfl) f0_61 (Or.inr ⟨rfl, rfl⟩) ko_1 rfl) ?_
  refine q_nmM (fun M33 => ?_)
  exact q_retv (iRow iCX0_init_2 19 rfl) rfl
set_option maxHeartbeats 40000000 in
set_option maxRecDepth 20000 in
theorem j_X2_init_t39 {G : mg} {M M' : mm} (d : Nat) (h : i_X2_init_t39 M = some M') : CT G rdC yX2_init cX2_init 1 none (some 39) (d + 1) 4 1104 39 43 [vR 3 1] M none M' := by
  refine cc_v (ls := [some (vR 3 1)]) rfl rfl (Nat.le_of_ble_eq_true rfl) (fun Z => ?_) h
  show SG G rdC (mRm (d + 1) 4 1104) (RX2, "<init>", cX2_init, 1, none, some 39) Z 39 0 0 0 [some (vR 3 1)] [] M _ _
  unfold i_X2_init_t39
  refine q_step (g_aload_n (iRow iCX2_init_0 0 rfl) rfl rfl) ?_
  refine q_step (g_objI (iRow iCX2_init_0 1 rfl) o2_3 ⟨by show 1 ≤ d + 1; omega, by show 20 ≤ 40 * (d + 1); omega⟩ (Nat.le_of_ble_eq_true rfl)) ?_
  refine q_step (g_aload_n (iRow iCX2_init_0 2 rfl) rfl rfl) ?_
  refine q_step (g_iconst (iRow iCX2_init_0 3 rfl) kc_5) ?_
  refine q_step (g_putI (iRow iCX2_init_0 4 rfl) f2_11 (Or.inl rfl) ko_3) ?_
  refine q_nmM (fun M1 => ?_)
  refine q_step (g_aload_n (iRow iCX2_init_0 5 rfl) rfl rfl) ?_
  refine q_step (g_sipush (iRow iCX2_init_0 6 rfl) ks_1000) ?_
  refine q_step (topA := 40) (cellsA := 1) (slotsA := 1000) (fun hh => g_newi (t0 := 39) (n := 1) (iRow iCX2_init_0 7 rfl) ac_int kn_35 ka_35 (by decide) kl_1000 rfl rfl rfl ⟨(by show _ ≤ 4; decide), (by show _ ≤ 1104; decide)⟩ hh) ?_
  refine q_nmM (fun M2 => ?_)
  refine q_step (g_putR (r := 2) (iRow iCX2_init_0 8 rfl) f2_17 (Or.inr ⟨rfl, rfl⟩) ko_3 rfl) ?_
  refine q_nmM (fun M3 => ?_)
  refine q_step (g_aload_n (iRow iCX2_init_0 9 rfl) rfl rfl) ?_
  refine q_step (g_bipush (iRow iCX2_init_0 10 rfl) kb_64) ?_
  refine q_step (topA := 41) (cellsA := 2) (slotsA := 1064) (fun hh => g_newi (t0 := 39) (n := 1) (iRow iCX2_init_0 11 rfl) ac_int kn_36 ka_36 (by decide) kl_64 rfl rfl rfl ⟨(by show _ ≤ 4; decide), (by show _ ≤ 1104; decide)⟩ hh) ?_
  refine q_nmM (fun M4 => ?_)
  refine q_step (g_putR (r := 2) (iRow iCX2_init_0 12 rfl) f2_21 (Or.inr ⟨rfl, rfl⟩) ko_3 rfl) ?_
  refine q_nmM (fun M5 => ?_)
  refine q_step (g_aload_n (iRow iCX2_init_0 13 rfl) rfl rfl) ?_
  refine q_step (g_bipush (iRow iCX2_init_0 14 rfl) kb_20) ?_
  refine q_step (topA := 42) (cellsA := 3) (slotsA := 1084) (fun hh => g_newi (t0 := 39) (n := 1) (iRow iCX2_init_0 15 rfl) ac_int kn_37 ka_37 (by decide) kl_20 rfl rfl rfl ⟨(by show _ ≤ 4; decide), (by show _ ≤ 1104; decide)⟩ hh) ?_
  refine q_nmM (fun M6 => ?_)
  refine q_step (g_putR (r := 2) (iRow iCX2_init_0 16 rfl) f2_24 (Or.inr ⟨rfl, rfl⟩) ko_3 rfl) ?_
  refine q_nmM (fun M7 => ?_)
  refine q_step (g_aload_n (iRow iCX2_init_0 17 rfl) rfl rfl) ?_
  refine q_step (g_bipush (iRow iCX2_init_0 18 rfl) kb_20) ?_
  refine q_step (topA := 43) (cellsA := 4) (slotsA := 1104) (fun hh => g_newi (t0 := 39) (n := 1) (iRow iCX2_init_0 19 rfl) ac_int kn_38 ka_38 (by decide) kl_20 rfl rfl rfl ⟨(by show _ ≤ 4; decide), (by show _ ≤ 1104; decide)⟩ hh) ?_
  refine q_nmM (fun M8 => ?_)
  refine q_step (g_putR (r := 2) (iRow iCX2_init_0 20 rfl) f2_27 (Or.inr ⟨rfl, rfl⟩) ko_3 rfl) ?_
  refine q_nmM (fun M9 => ?_)
  exact q_retv (iRow iCX2_init_0 21 rfl) rfl
set_option maxHeartbeats 40000000 in
set_option maxRecDepth 20000 in
theorem j_X0_init_t23 {G : mg} {M M' : mm} (d : Nat) (h : i_X0_init_t23 M = some M') : CT G rdC yX0_init cX0_init 1 none (some 23) (d + 2) 20 1246 23 43 [vR 1 1] M none M' := by
  refine cc_v (ls := [some (vR 1 1)]) rfl rfl (Nat.le_of_ble_eq_true rfl) (fun Z => ?_) h
  show SG G rdC (mRm (d + 2) 20 1246) (RX0, "<init>", cX0_init, 1, none, some 23) Z 23 0 0 0 [some (vR 1 1)] [] M _ _
  unfold i_X0_init_t23
  refine q_step (g_aload_n (iRow iCX0_init_0 0 rfl) rfl rfl) ?_
  refine q_step (g_objI (iRow iCX0_init_0 1 rfl) o0_3 ⟨by show 1 ≤ d + 2; omega, by show 20 ≤ 40 * (d + 2); omega⟩ (Nat.le_of_ble_eq_true rfl)) ?_
  refine q_step (g_aload_n (iRow iCX0_init_0 2 rfl) rfl rfl) ?_
  refine q_step (g_bipush (iRow iCX0_init_0 3 rfl) kb_6) ?_
  refine q_step (topA := 24) (cellsA := 1) (slotsA := 6) (fun hh => g_newl (t0 := 23) (n := 1) (iRow iCX0_init_0 4 rfl) ac_long kn_20 ka_20 (by decide) kl_6 rfl rfl rfl ⟨(by show _ ≤ 20; decide), (by show _ ≤ 1246; decide)⟩ hh) ?_
  refine q_nmM (fun M1 => ?_)
  refine q_step (g_putR (r := 2) (iRow iCX0_init_0 5 rfl) f0_9 (Or.inr ⟨rfl, rfl⟩) ko_1 rfl) ?_
  refine q_nmM (fun M2 => ?_)
  refine q_step (g_aload_n (iRow iCX0_init_0 6 rfl) rfl rfl) ?_
  refine q_step (g_bipush (iRow iCX0_init_0 7 rfl) kb_6) ?_
  refine q_step (topA := 25) (cellsA := 2) (slotsA := 12) (fun hh => g_newi (t0 := 23) (n := 1) (iRow iCX0_init_0 8 rfl) ac_int kn_21 ka_21 (by decide) kl_6 rfl rfl rfl ⟨(by show _ ≤ 20; decide), (by show _ ≤ 1246; decide)⟩ hh) ?_
  refine q_nmM (fun M3 => ?_)
  refine q_step (g_putR (r := 2) (iRow iCX0_init_0 9 rfl) f0_15 (Or.inr ⟨rfl, rfl⟩) ko_1 rfl) ?_
  refine q_nmM (fun M4 => ?_)
  refine q_step (g_aload_n (iRow iCX0_init_0 10 rfl) rfl rfl) ?_
  refine q_step (g_bipush (iRow iCX0_init_0 11 rfl) kb_6) ?_
  refine q_step (topA := 26) (cellsA := 3) (slotsA := 18) (fun hh => g_newi (t0 := 23) (n := 1) (iRow iCX0_init_0 12 rfl) ac_int kn_22 ka_22 (by decide) kl_6 rfl rfl rfl ⟨(by show _ ≤ 20; decide), (by show _ ≤ 1246; decide)⟩ hh) ?_
  refine q_nmM (fun M5 => ?_)
  refine q_step (g_putR (r := 2) (iRow iCX0_init_0 13 rfl) f0_19 (Or.inr ⟨rfl, rfl⟩) ko_1 rfl) ?_
  refine q_nmM (fun M6 => ?_)
  refine q_step (g_aload_n (iRow iCX0_init_0 14 rfl) rfl rfl) ?_
  refine q_step (g_bipush (iRow iCX0_init_0 15 rfl) kb_6) ?_
  refine q_step (topA := 27) (cellsA := 4) (slotsA := 24) (fun hh => g_newi (t0 := 23) (n := 1) (iRow iCX0_init_0 16 rfl) ac_int kn_23 ka_23 (by decide) kl_6 rfl rfl rfl ⟨(by show _ ≤ 20; decide), (by show _ ≤ 1246; decide)⟩ hh) ?_
  refine q_nmM (fun M7 => ?_)
  refine q_step (g_putR (r := 2) (iRow iCX0_init_0 17 rfl) f0_22 (Or.inr ⟨rfl, rfl⟩) ko_1 rfl) ?_
  refine q_nmM (fun M8 => ?_)
  refine q_step (g_aload_n (iRow iCX0_init_0 18 rfl) rfl rfl) ?_
  refine q_step (g_bipush (iRow iCX0_init_0 19 rfl) kb_10) ?_
  refine q_step (topA := 28) (cellsA := 5) (slotsA := 34) (fun hh => g_newl (t0 := 23) (n := 1) (iRow iCX0_init_0 20 rfl) ac_long kn_24 ka_24 (by decide) kl_10 rfl rfl rfl ⟨(by show _ ≤ 20; decide), (by show _ ≤ 1246; decide)⟩ hh) ?_
  refine q_nmM (fun M9 => ?_)
  refine q_step (g_putR (r := 2) (iRow iCX0_init_0 21 rfl) f0_25 (Or.inr ⟨rfl, rfl⟩) ko_1 rfl) ?_
  refine q_nmM (fun M10 => ?_)
  refine q_step (g_aload_n (iRow iCX0_init_0 22 rfl) rfl rfl) ?_
  refine q_step (g_bipush (iRow iCX0_init_0 23 rfl) kb_10) ?_
  refine q_step (topA := 29) (cellsA := 6) (slotsA := 44) (fun hh => g_newi (t0 := 23) (n := 1) (iRow iCX0_init_1 0 rfl) ac_int kn_25 ka_25 (by decide) kl_10 rfl rfl rfl ⟨(by show _ ≤ 20; decide), (by show _ ≤ 1246; decide)⟩ hh) ?_
  refine q_nmM (fun M11 => ?_)
  refine q_step (g_putR (r := 2) (iRow iCX0_init_1 1 rfl) f0_28 (Or.inr ⟨rfl, rfl⟩) ko_1 rfl) ?_
  refine q_nmM (fun M12 => ?_)
  refine q_step (g_aload_n (iRow iCX0_init_1 2 rfl) rfl rfl) ?_
  refine q_step (g_bipush (iRow iCX0_init_1 3 rfl) kb_10) ?_
  refine q_step (topA := 30) (cellsA := 7) (slotsA := 54) (fun hh => g_newi (t0 := 23) (n := 1) (iRow iCX0_init_1 4 rfl) ac_int kn_26 ka_26 (by decide) kl_10 rfl rfl rfl ⟨(by show _ ≤ 20; decide), (by show _ ≤ 1246; decide)⟩ hh) ?_
  refine q_nmM (fun M13 => ?_)
  refine q_step (g_putR (r := 2) (iRow iCX0_init_1 5 rfl) f0_31 (Or.inr ⟨rfl, rfl⟩) ko_1 rfl) ?_
  refine q_nmM (fun M14 => ?_)
  refine q_step (g_aload_n (iRow iCX0_init_1 6 rfl) rfl rfl) ?_
  refine q_step (g_bipush (iRow iCX0_init_1 7 rfl) kb_10) ?_
  refine q_step (topA := 31) (cellsA := 8) (slotsA := 64) (fun hh => g_newi (t0 := 23) (n := 1) (iRow iCX0_init_1 8 rfl) ac_int kn_27 ka_27 (by decide) kl_10 rfl rfl rfl ⟨(by show _ ≤ 20; decide), (by show _ ≤ 1246; decide)⟩ hh) ?_
  refine q_nmM (fun M15 => ?_)
  refine q_step (g_putR (r := 2) (iRow iCX0_init_1 9 rfl) f0_34 (Or.inr ⟨rfl, rfl⟩) ko_1 rfl) ?_
  refine q_nmM (fun M16 => ?_)
  refine q_step (g_aload_n (iRow iCX0_init_1 10 rfl) rfl rfl) ?_
  refine q_step (g_bipush (iRow iCX0_init_1 11 rfl) kb_10) ?_
  refine q_step (topA := 32) (cellsA := 9) (slotsA := 74) (fun hh => g_newi (t0 := 23) (n := 1) (iRow iCX0_init_1 12 rfl) ac_int kn_28 ka_28 (by decide) kl_10 rfl rfl rfl ⟨(by show _ ≤ 20; decide), (by show _ ≤ 1246; decide)⟩ hh) ?_
  refine q_nmM (fun M17 => ?_)
  refine q_step (g_putR (r := 2) (iRow iCX0_init_1 13 rfl) f0_37 (Or.inr ⟨rfl, rfl⟩) ko_1 rfl) ?_
  refine q_nmM (fun M18 => ?_)
  refine q_step (g_aload_n (iRow iCX0_init_1 14 rfl) rfl rfl) ?_
  refine q_step (g_bipush (iRow iCX0_init_1 15 rfl) kb_10) ?_
  refine q_step (topA := 33) (cellsA := 10) (slotsA := 84) (fun hh => g_newi (t0 := 23) (n := 1) (iRow iCX0_init_1 16 rfl) ac_int kn_29 ka_29 (by decide) kl_10 rfl rfl rfl ⟨(by show _ ≤ 20; decide), (by show _ ≤ 1246; decide)⟩ hh) ?_
  refine q_nmM (fun M19 => ?_)
  refine q_step (g_putR (r := 2) (iRow iCX0_init_1 17 rfl) f0_40 (Or.inr ⟨rfl, rfl⟩) ko_1 rfl) ?_
  refine q_nmM (fun M20 => ?_)
  refine q_step (g_aload_n (iRow iCX0_init_1 18 rfl) rfl rfl) ?_
  refine q_step (g_bipush (iRow iCX0_init_1 19 rfl) kb_10) ?_
  refine q_step (topA := 34) (cellsA := 11) (slotsA := 94) (fun hh => g_newl (t0 := 23) (n := 1) (iRow iCX0_init_1 20 rfl) ac_long kn_30 ka_30 (by decide) kl_10 rfl rfl rfl ⟨(by show _ ≤ 20; decide), (by show _ ≤ 1246; decide)⟩ hh) ?_
  refine q_nmM (fun M21 => ?_)
  refine q_step (g_putR (r := 2) (iRow iCX0_init_1 21 rfl) f0_43 (Or.inr ⟨rfl, rfl⟩) ko_1 rfl) ?_
  refine q_nmM (fun M22 => ?_)
  refine q_step (g_aload_n (iRow iCX0_init_1 22 rfl) rfl rfl) ?_
  refine q_step (g_bipush (iRow iCX0_init_1 23 rfl) kb_10) ?_
  refine q_step (topA := 35) (cellsA := 12) (slotsA := 104) (fun hh => g_newi (t0 := 23) (n := 1) (iRow iCX0_init_2 0 rfl) ac_int kn_31 ka_31 (by decide) kl_10 rfl rfl rfl ⟨(by show _ ≤ 20; decide), (by show _ ≤ 1246; decide)⟩ hh) ?_
  refine q_nmM (fun M23 => ?_)
  refine q_step (g_putR (r := 2) (iRow iCX0_init_2 1 rfl) f0_46 (Or.inr ⟨rfl, rfl⟩) ko_1 rfl) ?_
  refine q_nmM (fun M24 => ?_)
  refine q_step (g_aload_n (iRow iCX0_init_2 2 rfl) rfl rfl) ?_
  refine q_step (g_bipush (iRow iCX0_init_2 3 rfl) kb_10) ?_
  refine q_step (topA := 36) (cellsA := 13) (slotsA := 114) (fun hh => g_newi (t0 := 23) (n := 1) (iRow iCX0_init_2 4 rfl) ac_int kn_32 ka_32 (by decide) kl_10 rfl rfl rfl ⟨(by show _ ≤ 20; decide), (by show _ ≤ 1246; decide)⟩ hh) ?_
  refine q_nmM (fun M25 => ?_)
  refine q_step (g_putR (r := 2) (iRow iCX0_init_2 5 rfl) f0_49 (Or.inr ⟨rfl, rfl⟩) ko_1 rfl) ?_
  refine q_nmM (fun M26 => ?_)
  refine q_step (g_aload_n (iRow iCX0_init_2 6 rfl) rfl rfl) ?_
  refine q_step (g_bipush (iRow iCX0_init_2 7 rfl) kb_10) ?_
  refine q_step (topA := 37) (cellsA := 14) (slotsA := 124) (fun hh => g_newi (t0 := 23) (n := 1) (iRow iCX0_init_2 8 rfl) ac_int kn_33 ka_33 (by decide) kl_10 rfl rfl rfl ⟨(by show _ ≤ 20; decide), (by show _ ≤ 1246; decide)⟩ hh) ?_
  refine q_nmM (fun M27 => ?_)
  refine q_step (g_putR (r := 2) (iRow iCX0_init_2 9 rfl) f0_52 (Or.inr ⟨rfl, rfl⟩) ko_1 rfl) ?_
  refine q_nmM (fun M28 => ?_)
  refine q_step (g_aload_n (iRow iCX0_init_2 10 rfl) rfl rfl) ?_
  refine q_step (g_bipush (iRow iCX0_init_2 11 rfl) kb_10) ?_
  refine q_step (topA := 38) (cellsA := 15) (slotsA := 134) (fun hh => g_newi (t0 := 23) (n := 1) (iRow iCX0_init_2 12 rfl) ac_int kn_34 ka_34 (by decide) kl_10 rfl rfl rfl ⟨(by show _ ≤ 20; decide), (by show _ ≤ 1246; decide)⟩ hh) ?_
  refine q_nmM (fun M29 => ?_)
  refine q_step (g_putR (r := 2) (iRow iCX0_init_2 13 rfl) f0_55 (Or.inr ⟨rfl, rfl⟩) ko_1 rfl) ?_
  refine q_nmM (fun M30 => ?_)
  refine q_step (g_aload_n (iRow iCX0_init_2 14 rfl) rfl rfl) ?_
  refine q_step (topA := 39) (cellsA := 16) (slotsA := 142) (fun hh => g_new (t0 := 23) (N := 8) (n := 1) (iRow iCX0_init_2 15 rfl) n0_58 rfl ko_3 rfl rfl rfl ⟨(by show _ ≤ 20; decide), (by show _ ≤ 1246; decide)⟩ hh) ?_
  refine q_nmM (fun M31 => ?_)
  refine q_step (g_dup (iRow iCX0_init_2 16 rfl) rfl) ?_
  refine q_cv (topA := 43) (cellsA := 20) (slotsA := 1246) (stA := [vR 3 1, vR 1 1]) (fun _ h hh => g_callIN (As := []) (r := none) (iRow iCX0_init_2 17 rfl) z0_60 ii_X2_init rfl rfl (j_X2_init_t39 (d + 0) h) ⟨by show _ + 1 ≤ d + 2; omega, by show 8 + (1 + 11) + 40 * _ ≤ 40 * (d + 2); omega⟩ (Nat.le_of_ble_eq_true rfl) ⟨(by show _ ≤ 20; decide), (by show _ ≤ 1246; decide)⟩ (mAl_some rfl rfl rfl) (by decide) hh) (fun M32 => ?_)
  refine q_step (g_putR (r := 2) (iRow iCX0_init_2 18 rfl) f0_61 (Or.inr ⟨rfl, rfl⟩) ko_1 rfl) ?_
  refine q_nmM (fun M33 => ?_)
  exact q_retv (iRow iCX0_init_2 19 rfl) rfl
set_option maxHeartbeats 40000000 in
set_option maxRecDepth 20000 in
theorem j_X8_init_t44 {G : mg} {M M' : mm} (d : Nat) (h : i_X8_init_t44 M = some M') : CT G rdC yX8_init cX8_init 1 none (some 44) (d + 1) 2 80 44 46 [vR 9 0] M none M' := by
  refine cc_v (ls := [some (vR 9 0)]) rfl rfl (Nat.le_of_ble_eq_true rfl) (fun Z => ?_) h
  show SG G rdC (mRm (d + 1) 2 80) (RX8, "<init>", cX8_init, 1, none, some 44) Z 44 0 0 0 [some (vR 9 0)] [] M _ _
  unfold i_X8_init_t44
  refine q_step (g_aload_n (iRow iCX8_init_0 0 rfl) rfl rfl) ?_
  refine q_step (g_objI (iRow iCX8_init_0 1 rfl) o8_3 ⟨by show 1 ≤ d + 1; omega, by show 20 ≤ 40 * (d + 1); omega⟩ (Nat.le_of_ble_eq_true rfl)) ?_
  refine q_step (g_aload_n (iRow iCX8_init_0 2 rfl) rfl rfl) ?_
  refine q_step (g_bipush (iRow iCX8_init_0 3 rfl) kb_40) ?_
  refine q_step (topA := 45) (cellsA := 1) (slotsA := 40) (fun hh => g_newi (t0 := 44) (n := 0) (iRow iCX8_init_0 4 rfl) ac_int kn_45 ka_45 (by decide) kl_40 rfl rfl rfl ⟨(by show _ ≤ 2; decide), (by show _ ≤ 80; decide)⟩ hh) ?_
  refine q_nmM (fun M1 => ?_)
  refine q_step (g_putR (r := 1) (iRow iCX8_init_0 5 rfl) f8_9 (Or.inr ⟨rfl, rfl⟩) ko_9 rfl) ?_
  refine q_nmM (fun M2 => ?_)
  refine q_step (g_aload_n (iRow iCX8_init_0 6 rfl) rfl rfl) ?_
  refine q_step (g_bipush (iRow iCX8_init_0 7 rfl) kb_40) ?_
  refine q_step (topA := 46) (cellsA := 2) (slotsA := 80) (fun hh => g_newi (t0 := 44) (n := 0) (iRow iCX8_init_0 8 rfl) ac_int kn_46 ka_46 (by decide) kl_40 rfl rfl rfl ⟨(by show _ ≤ 2; decide), (by show _ ≤ 80; decide)⟩ hh) ?_
  refine q_nmM (fun M3 => ?_)
  refine q_step (g_putR (r := 1) (iRow iCX8_init_0 9 rfl) f8_15 (Or.inr ⟨rfl, rfl⟩) ko_9 rfl) ?_
  refine q_nmM (fun M4 => ?_)
  exact q_retv (iRow iCX8_init_0 10 rfl) rfl
set_option maxHeartbeats 40000000 in
set_option maxRecDepth 20000 in
theorem j_X8_init_t47 {G : mg} {M M' : mm} (d : Nat) (h : i_X8_init_t47 M = some M') : CT G rdC yX8_init cX8_init 1 none (some 47) (d + 1) 2 80 47 49 [vR 9 1] M none M' := by
  refine cc_v (ls := [some (vR 9 1)]) rfl rfl (Nat.le_of_ble_eq_true rfl) (fun Z => ?_) h
  show SG G rdC (mRm (d + 1) 2 80) (RX8, "<init>", cX8_init, 1, none, some 47) Z 47 0 0 0 [some (vR 9 1)] [] M _ _
  unfold i_X8_init_t47
  refine q_step (g_aload_n (iRow iCX8_init_0 0 rfl) rfl rfl) ?_
  refine q_step (g_objI (iRow iCX8_init_0 1 rfl) o8_3 ⟨by show 1 ≤ d + 1; omega, by show 20 ≤ 40 * (d + 1); omega⟩ (Nat.le_of_ble_eq_true rfl)) ?_
  refine q_step (g_aload_n (iRow iCX8_init_0 2 rfl) rfl rfl) ?_
  refine q_step (g_bipush (iRow iCX8_init_0 3 rfl) kb_40) ?_
  refine q_step (topA := 48) (cellsA := 1) (slotsA := 40) (fun hh => g_newi (t0 := 47) (n := 1) (iRow iCX8_init_0 4 rfl) ac_int kn_45 ka_45 (by decide) kl_40 rfl rfl rfl ⟨(by show _ ≤ 2; decide), (by show _ ≤ 80; decide)⟩ hh) ?_
  refine q_nmM (fun M1 => ?_)
  refine q_step (g_putR (r := 2) (iRow iCX8_init_0 5 rfl) f8_9 (Or.inr ⟨rfl, rfl⟩) ko_9 rfl) ?_
  refine q_nmM (fun M2 => ?_)
  refine q_step (g_aload_n (iRow iCX8_init_0 6 rfl) rfl rfl) ?_
  refine q_step (g_bipush (iRow iCX8_init_0 7 rfl) kb_40) ?_
  refine q_step (topA := 49) (cellsA := 2) (slotsA := 80) (fun hh => g_newi (t0 := 47) (n := 1) (iRow iCX8_init_0 8 rfl) ac_int kn_46 ka_46 (by decide) kl_40 rfl rfl rfl ⟨(by show _ ≤ 2; decide), (by show _ ≤ 80; decide)⟩ hh) ?_
  refine q_nmM (fun M3 => ?_)
  refine q_step (g_putR (r := 2) (iRow iCX8_init_0 9 rfl) f8_15 (Or.inr ⟨rfl, rfl⟩) ko_9 rfl) ?_
  refine q_nmM (fun M4 => ?_)
  exact q_retv (iRow iCX8_init_0 10 rfl) rfl
set_option maxHeartbeats 40000000 in
set_option maxRecDepth 20000 in
theorem j_X3_init_t54 {G : mg} {M M' : mm} (d : Nat) (h : i_X3_init_t54 M = some M') : CT G rdC yX3_init cX3_init 3 none (some 54) (d + 1) 1 64 54 55 [vR 4 0, vR 7 0, vR 3 1] M none M' := by
  refine cc_v (ls := [some (vR 4 0), some (vR 7 0), some (vR 3 1)]) rfl rfl (Nat.le_of_ble_eq_true rfl) (fun Z => ?_) h
  show SG G rdC (mRm (d + 1) 1 64) (RX3, "<init>", cX3_init, 3, none, some 54) Z 54 0 0 0 [some (vR 4 0), some (vR 7 0), some (vR 3 1)] [] M _ _
  unfold i_X3_init_t54
  refine q_step (g_aload_n (iRow iCX3_init_0 0 rfl) rfl rfl) ?_
  refine q_step (g_objI (iRow iCX3_init_0 1 rfl) o3_1 ⟨by show 1 ≤ d + 1; omega, by show 20 ≤ 40 * (d + 1); omega⟩ (Nat.le_of_ble_eq_true rfl)) ?_
  refine q_step (g_aload_n (iRow iCX3_init_0 2 rfl) rfl rfl) ?_
  refine q_step (g_bipush (iRow iCX3_init_0 3 rfl) kb_64) ?_
  refine q_step (topA := 55) (cellsA := 1) (slotsA := 64) (fun hh => g_newi (t0 := 54) (n := 0) (iRow iCX3_init_0 4 rfl) ac_int kn_39 ka_39 (by decide) kl_64 rfl rfl rfl ⟨(by show _ ≤ 1; decide), (by show _ ≤ 64; decide)⟩ hh) ?_
  refine q_nmM (fun M1 => ?_)
  refine q_step (g_putR (r := 1) (iRow iCX3_init_0 5 rfl) f3_7 (Or.inr ⟨rfl, rfl⟩) ko_4 rfl) ?_
  refine q_nmM (fun M2 => ?_)
  refine q_step (g_aload_n (iRow iCX3_init_0 6 rfl) rfl rfl) ?_
  refine q_step (g_aload_n (iRow iCX3_init_0 7 rfl) rfl rfl) ?_
  refine q_step (g_putR (r := 1) (iRow iCX3_init_0 8 rfl) f3_13 (Or.inr ⟨rfl, rfl⟩) ko_4 rfl) ?_
  refine q_nmM (fun M3 => ?_)
  refine q_step (g_aload_n (iRow iCX3_init_0 9 rfl) rfl rfl) ?_
  refine q_step (g_aload_n (iRow iCX3_init_0 10 rfl) rfl rfl) ?_
  refine q_step (g_putR (r := 2) (iRow iCX3_init_0 11 rfl) f3_17 (Or.inl rfl) ko_4 rfl) ?_
  refine q_nmM (fun M4 => ?_)
  exact q_retv (iRow iCX3_init_0 12 rfl) rfl
set_option maxHeartbeats 40000000 in
set_option maxRecDepth 20000 in
theorem j_X5_init_t53 {G : mg} {M M' : mm} (d : Nat) (h : i_X5_init_t53 M = some M') : CT G rdC yX5_init cX5_init 4 none (some 53) (d + 2) 2 71 53 55 [vR 6 0, vR 7 0, vR 1 1, vR 9 1] M none M' := by
  refine cc_v (ls := [some (vR 6 0), some (vR 7 0), some (vR 1 1), some (vR 9 1)]) rfl rfl (Nat.le_of_ble_eq_true rfl) (fun Z => ?_) h
  show SG G rdC (mRm (d + 2) 2 71) (RX5, "<init>", cX5_init, 4, none, some 53) Z 53 0 0 0 [some (vR 6 0), some (vR 7 0), some (vR 1 1), some (vR 9 1)] [] M _ _
  unfold i_X5_init_t53
  refine q_step (g_aload_n (iRow iCX5_init_0 0 rfl) rfl rfl) ?_
  refine q_step (g_objI (iRow iCX5_init_0 1 rfl) o5_3 ⟨by show 1 ≤ d + 2; omega, by show 20 ≤ 40 * (d + 2); omega⟩ (Nat.le_of_ble_eq_true rfl)) ?_
  refine q_step (g_aload_n (iRow iCX5_init_0 2 rfl) rfl rfl) ?_
  refine q_step (g_aload_n (iRow iCX5_init_0 3 rfl) rfl rfl) ?_
  refine q_step (g_putR (r := 1) (iRow iCX5_init_0 4 rfl) f5_9 (Or.inr ⟨rfl, rfl⟩) ko_6 rfl) ?_
  refine q_nmM (fun M1 => ?_)
  refine q_step (g_aload_n (iRow iCX5_init_0 5 rfl) rfl rfl) ?_
  refine q_step (g_aload_n (iRow iCX5_init_0 6 rfl) rfl rfl) ?_
  refine q_step (g_putR (r := 2) (iRow iCX5_init_0 7 rfl) f5_15 (Or.inl rfl) ko_6 rfl) ?_
  refine q_nmM (fun M2 => ?_)
  refine q_step (g_aload_n (iRow iCX5_init_0 8 rfl) rfl rfl) ?_
  refine q_step (g_aload_n (iRow iCX5_init_0 9 rfl) rfl rfl) ?_
  refine q_step (g_putR (r := 2) (iRow iCX5_init_0 10 rfl) f5_19 (Or.inl rfl) ko_6 rfl) ?_
  refine q_nmM (fun M3 => ?_)
  refine q_step (g_aload_n (iRow iCX5_init_0 11 rfl) rfl rfl) ?_
  refine q_step (topA := 54) (cellsA := 1) (slotsA := 7) (fun hh => g_new (t0 := 53) (N := 7) (n := 0) (iRow iCX5_init_0 12 rfl) n5_23 rfl ko_4 rfl rfl rfl ⟨(by show _ ≤ 2; decide), (by show _ ≤ 71; decide)⟩ hh) ?_
  refine q_nmM (fun M4 => ?_)
  refine q_step (g_dup (iRow iCX5_init_0 13 rfl) rfl) ?_
  refine q_step (g_aload_n (iRow iCX5_init_0 14 rfl) rfl rfl) ?_
  refine q_step (g_aload_n (iRow iCX5_init_0 15 rfl) rfl rfl) ?_
  refine q_gt (fun h => g_getR (v := vR 3 1) (iRow iCX5_init_0 16 rfl) f5_25 ko_1 (by rw [h]; rfl)) ?_
  refine q_cv (topA := 55) (cellsA := 2) (slotsA := 71) (stA := [vR 4 0, vR 6 0]) (fun _ h hh => g_callI (As := [_, _]) (r := none) (iRow iCX5_init_0 17 rfl) l5_31 ii_X3_init rfl rfl (j_X3_init_t54 (d + 0) h) ⟨by show _ + 1 ≤ d + 2; omega, by show 8 + (3 + 11) + 40 * _ ≤ 40 * (d + 2); omega⟩ (Nat.le_of_ble_eq_true rfl) ⟨(by show _ ≤ 2; decide), (by show _ ≤ 71; decide)⟩ (mAl_some rfl rfl rfl) (by decide) hh) (fun M5 => ?_)
  refine q_step (g_putR (r := 1) (iRow iCX5_init_0 18 rfl) f5_34 (Or.inr ⟨rfl, rfl⟩) ko_6 rfl) ?_
  refine q_nmM (fun M6 => ?_)
  exact q_retv (iRow iCX5_init_0 19 rfl) rfl
set_option maxHeartbeats 40000000 in
set_option maxRecDepth 20000 in
theorem j_X9_init_t56 {G : mg} {M M' : mm} (d : Nat) (h : i_X9_init_t56 M = some M') : CT G rdC yX9_init cX9_init 1 none (some 56) (d + 1) 8 282 56 64 [vR 10 0] M none M' := by
  refine cc_v (ls := [some (vR 10 0)]) rfl rfl (Nat.le_of_ble_eq_true rfl) (fun Z => ?_) h
  show SG G rdC (mRm (d + 1) 8 282) (RX9, "<init>", cX9_init, 1, none, some 56) Z 56 0 0 0 [some (vR 10 0)] [] M _ _
  unfold i_X9_init_t56
  refine q_step (g_aload_n (iRow iCX9_init_0 0 rfl) rfl rfl) ?_
  refine q_step (g_objI (iRow iCX9_init_0 1 rfl) o9_3 ⟨by show 1 ≤ d + 1; omega, by show 20 ≤ 40 * (d + 1); omega⟩ (Nat.le_of_ble_eq_true rfl)) ?_
  refine q_step (g_aload_n (iRow iCX9_init_0 2 rfl) rfl rfl) ?_
  refine q_step (g_bipush (iRow iCX9_init_0 3 rfl) kb_11) ?_
  refine q_step (topA := 57) (cellsA := 1) (slotsA := 11) (fun hh => g_newi (t0 := 56) (n := 0) (iRow iCX9_init_0 4 rfl) ac_int kn_47 ka_47 (by decide) kl_11 rfl rfl rfl ⟨(by show _ ≤ 8; decide), (by show _ ≤ 282; decide)⟩ hh) ?_
  refine q_nmM (fun M1 => ?_)
  refine q_step (g_putR (r := 1) (iRow iCX9_init_0 5 rfl) f9_11 (Or.inr ⟨rfl, rfl⟩) ko_10 rfl) ?_
  refine q_nmM (fun M2 => ?_)
  refine q_step (g_aload_n (iRow iCX9_init_0 6 rfl) rfl rfl) ?_
  refine q_step (g_bipush (iRow iCX9_init_0 7 rfl) kb_10) ?_
  refine q_step (topA := 58) (cellsA := 2) (slotsA := 21) (fun hh => g_newi (t0 := 56) (n := 0) (iRow iCX9_init_0 8 rfl) ac_int kn_48 ka_48 (by decide) kl_10 rfl rfl rfl ⟨(by show _ ≤ 8; decide), (by show _ ≤ 282; decide)⟩ hh) ?_
  refine q_nmM (fun M3 => ?_)
  refine q_step (g_putR (r := 1) (iRow iCX9_init_0 9 rfl) f9_15 (Or.inr ⟨rfl, rfl⟩) ko_10 rfl) ?_
  refine q_nmM (fun M4 => ?_)
  refine q_step (g_aload_n (iRow iCX9_init_0 10 rfl) rfl rfl) ?_
  refine q_step (g_bipush (iRow iCX9_init_0 11 rfl) kb_110) ?_
  refine q_step (topA := 59) (cellsA := 3) (slotsA := 131) (fun hh => g_newi (t0 := 56) (n := 0) (iRow iCX9_init_0 12 rfl) ac_int kn_49 ka_49 (by decide) kl_110 rfl rfl rfl ⟨(by show _ ≤ 8; decide), (by show _ ≤ 282; decide)⟩ hh) ?_
  refine q_nmM (fun M5 => ?_)
  refine q_step (g_putR (r := 1) (iRow iCX9_init_0 13 rfl) f9_18 (Or.inr ⟨rfl, rfl⟩) ko_10 rfl) ?_
  refine q_nmM (fun M6 => ?_)
  refine q_step (g_aload_n (iRow iCX9_init_0 14 rfl) rfl rfl) ?_
  refine q_step (g_bipush (iRow iCX9_init_0 15 rfl) kb_10) ?_
  refine q_step (topA := 60) (cellsA := 4) (slotsA := 141) (fun hh => g_newi (t0 := 56) (n := 0) (iRow iCX9_init_0 16 rfl) ac_int kn_50 ka_50 (by decide) kl_10 rfl rfl rfl ⟨(by show _ ≤ 8; decide), (by show _ ≤ 282; decide)⟩ hh) ?_
  refine q_nmM (fun M7 => ?_)
  refine q_step (g_putR (r := 1) (iRow iCX9_init_0 17 rfl) f9_21 (Or.inr ⟨rfl, rfl⟩) ko_10 rfl) ?_
  refine q_nmM (fun M8 => ?_)
  refine q_step (g_aload_n (iRow iCX9_init_0 18 rfl) rfl rfl) ?_
  refine q_step (g_bipush (iRow iCX9_init_0 19 rfl) kb_110) ?_
  refine q_step (topA := 61) (cellsA := 5) (slotsA := 251) (fun hh => g_newi (t0 := 56) (n := 0) (iRow iCX9_init_0 20 rfl) ac_int kn_51 ka_51 (by decide) kl_110 rfl rfl rfl ⟨(by show _ ≤ 8; decide), (by show _ ≤ 282; decide)⟩ hh) ?_
  refine q_nmM (fun M9 => ?_)
  refine q_step (g_putR (r := 1) (iRow iCX9_init_0 21 rfl) f9_24 (Or.inr ⟨rfl, rfl⟩) ko_10 rfl) ?_
  refine q_nmM (fun M10 => ?_)
  refine q_step (g_aload_n (iRow iCX9_init_0 22 rfl) rfl rfl) ?_
  refine q_step (g_bipush (iRow iCX9_init_0 23 rfl) kb_10) ?_
  refine q_step (topA := 62) (cellsA := 6) (slotsA := 261) (fun hh => g_newi (t0 := 56) (n := 0) (iRow iCX9_init_1 0 rfl) ac_int kn_52 ka_52 (by decide) kl_10 rfl rfl rfl ⟨(by show _ ≤ 8; decide), (by show _ ≤ 282; decide)⟩ hh) ?_
  refine q_nmM (fun M11 => ?_)
  refine q_step (g_putR (r := 1) (iRow iCX9_init_1 1 rfl) f9_27 (Or.inr ⟨rfl, rfl⟩) ko_10 rfl) ?_
  refine q_nmM (fun M12 => ?_)
  refine q_step (g_aload_n (iRow iCX9_init_1 2 rfl) rfl rfl) ?_
  refine q_step (g_bipush (iRow iCX9_init_1 3 rfl) kb_10) ?_
  refine q_step (topA := 63) (cellsA := 7) (slotsA := 271) (fun hh => g_newi (t0 := 56) (n := 0) (iRow iCX9_init_1 4 rfl) ac_int kn_53 ka_53 (by decide) kl_10 rfl rfl rfl ⟨(by show _ ≤ 8; decide), (by show _ ≤ 282; decide)⟩ hh) ?_
  refine q_nmM (fun M13 => ?_)
  refine q_step (g_putR (r := 1) (iRow iCX9_init_1 5 rfl) f9_30 (Or.inr ⟨rfl, rfl⟩) ko_10 rfl) ?_
  refine q_nmM (fun M14 => ?_)
  refine q_step (g_aload_n (iRow iCX9_init_1 6 rfl) rfl rfl) ?_
  refine q_step (g_bipush (iRow iCX9_init_1 7 rfl) kb_11) ?_
  refine q_step (topA := 64) (cellsA := 8) (slotsA := 282) (fun hh => g_newi (t0 := 56) (n := 0) (iRow iCX9_init_1 8 rfl) ac_int kn_54 ka_54 (by decide) kl_11 rfl rfl rfl ⟨(by show _ ≤ 8; decide), (by show _ ≤ 282; decide)⟩ hh) ?_
  refine q_nmM (fun M15 => ?_)
  refine q_step (g_putR (r := 1) (iRow iCX9_init_1 9 rfl) f9_33 (Or.inr ⟨rfl, rfl⟩) ko_10 rfl) ?_
  refine q_nmM (fun M16 => ?_)
  exact q_retv (iRow iCX9_init_1 10 rfl) rfl
set_option maxHeartbeats 40000000 in
set_option maxRecDepth 20000 in
theorem j_X1_init_t65 {G : mg} {M M' : mm} (d : Nat) (h : i_X1_init_t65 M = some M') : CT G rdC yX1_init cX1_init 2 none (some 65) (d + 1) 0 0 65 65 [vR 2 0, vR 10 0] M none M' := by
  refine cc_v (ls := [some (vR 2 0), some (vR 10 0)]) rfl rfl (Nat.le_of_ble_eq_true rfl) (fun Z => ?_) h
  show SG G rdC (mRm (d + 1) 0 0) (RX1, "<init>", cX1_init, 2, none, some 65) Z 65 0 0 0 [some (vR 2 0), some (vR 10 0)] [] M _ _
  unfold i_X1_init_t65
  refine q_step (g_aload_n (iRow iCX1_init_0 0 rfl) rfl rfl) ?_
  refine q_step (g_objI (iRow iCX1_init_0 1 rfl) o1_3 ⟨by show 1 ≤ d + 1; omega, by show 20 ≤ 40 * (d + 1); omega⟩ (Nat.le_of_ble_eq_true rfl)) ?_
  refine q_step (g_aload_n (iRow iCX1_init_0 2 rfl) rfl rfl) ?_
  refine q_step (g_aload_n (iRow iCX1_init_0 3 rfl) rfl rfl) ?_
  refine q_step (g_putR (r := 1) (iRow iCX1_init_0 4 rfl) f1_9 (Or.inr ⟨rfl, rfl⟩) ko_2 rfl) ?_
  refine q_nmM (fun M1 => ?_)
  exact q_retv (iRow iCX1_init_0 5 rfl) rfl
set_option maxHeartbeats 40000000 in
set_option maxRecDepth 20000 in
theorem j_X4_init {G : mg} {n : Nat} {top : Nat} {M M' : mm} (d : Nat) (h : i_X4_init n M = some M') : CT G rdC yX4_init cX4_init 1 none none (d + 1) 0 0 top top [vR 5 n] M none M' := by
  refine cc_v (ls := [some (vR 5 n)]) rfl rfl (Nat.le_of_ble_eq_true rfl) (fun Z => ?_) h
  show SG G rdC (mRm (d + 1) 0 0) (RX4, "<init>", cX4_init, 1, none, none) Z top 0 0 0 [some (vR 5 n)] [] M _ _
  unfold i_X4_init
  refine q_step (g_aload_n (iRow iCX4_init_0 0 rfl) rfl rfl) ?_
  refine q_step (g_objI (iRow iCX4_init_0 1 rfl) o4_1 ⟨by show 1 ≤ d + 1; omega, by show 20 ≤ 40 * (d + 1); omega⟩ (Nat.le_of_ble_eq_true rfl)) ?_
  exact q_retv (iRow iCX4_init_0 2 rfl) rfl
set_option maxHeartbeats 40000000 in
set_option maxRecDepth 20000 in
theorem j_X10_init_t66 {G : mg} {M M' : mm} (d : Nat) (h : i_X10_init_t66 M = some M') : CT G rdC yX10_init cX10_init 3 none (some 66) (d + 2) 7 2550 66 73 [vR 11 0, vR 10 0, vR 1 0] M none M' := by
  refine cc_v (ls := [some (vR 11 0), some (vR 10 0), some (vR 1 0)]) rfl rfl (Nat.le_of_ble_eq_true rfl) (fun Z => ?_) h
  show SG G rdC (mRm (d + 2) 7 2550) (RX10, "<init>", cX10_init, 3, none, some 66) Z 66 0 0 0 [some (vR 11 0), some (vR 10 0), some (vR 1 0)] [] M _ _
  unfold i_X10_init_t66
  refine q_step (g_aload_n (iRow iCX10_init_0 0 rfl) rfl rfl) ?_
  refine q_step (g_objI (iRow iCX10_init_0 1 rfl) o10_3 ⟨by show 1 ≤ d + 2; omega, by show 20 ≤ 40 * (d + 2); omega⟩ (Nat.le_of_ble_eq_true rfl)) ?_
  refine q_step (g_aload_n (iRow iCX10_init_0 2 rfl) rfl rfl) ?_
  refine q_step (topA := 67) (cellsA := 1) (slotsA := 4) (fun hh => g_new (t0 := 66) (N := 4) (n := 0) (iRow iCX10_init_0 3 rfl) n10_9 rfl ko_5 rfl rfl rfl ⟨(by show _ ≤ 7; decide), (by show _ ≤ 2550; decide)⟩ hh) ?_
  refine q_nmM (fun M1 => ?_)
  refine q_step (g_dup (iRow iCX10_init_0 4 rfl) rfl) ?_
  refine q_cv (topA := 67) (cellsA := 1) (slotsA := 4) (stA := [vR 5 0, vR 11 0]) (fun _ h hh => g_callIN (As := []) (r := none) (iRow iCX10_init_0 5 rfl) z10_11 ii_X4_init rfl rfl (j_X4_init (d + 0) h) ⟨by show _ + 1 ≤ d + 2; omega, by show 8 + (1 + 11) + 40 * _ ≤ 40 * (d + 2); omega⟩ (Nat.le_of_ble_eq_true rfl) ⟨(by show _ ≤ 7; decide), (by show _ ≤ 2550; decide)⟩ mAl_none (by decide) hh) (fun M2 => ?_)
  refine q_step (g_putR (r := 1) (iRow iCX10_init_0 6 rfl) f10_12 (Or.inr ⟨rfl, rfl⟩) ko_11 rfl) ?_
  refine q_nmM (fun M3 => ?_)
  refine q_step (g_aload_n (iRow iCX10_init_0 7 rfl) rfl rfl) ?_
  refine q_step (topA := 68) (cellsA := 2) (slotsA := 8) (fun hh => g_new (t0 := 66) (N := 4) (n := 1) (iRow iCX10_init_0 8 rfl) n10_9 rfl ko_5 rfl rfl rfl ⟨(by show _ ≤ 7; decide), (by show _ ≤ 2550; decide)⟩ hh) ?_
  refine q_nmM (fun M4 => ?_)
  refine q_step (g_dup (iRow iCX10_init_0 9 rfl) rfl) ?_
  refine q_cv (topA := 68) (cellsA := 2) (slotsA := 8) (stA := [vR 5 1, vR 11 0]) (fun _ h hh => g_callIN (As := []) (r := none) (iRow iCX10_init_0 10 rfl) z10_11 ii_X4_init rfl rfl (j_X4_init (d + 0) h) ⟨by show _ + 1 ≤ d + 2; omega, by show 8 + (1 + 11) + 40 * _ ≤ 40 * (d + 2); omega⟩ (Nat.le_of_ble_eq_true rfl) ⟨(by show _ ≤ 7; decide), (by show _ ≤ 2550; decide)⟩ mAl_none (by decide) hh) (fun M5 => ?_)
  refine q_step (g_putR (r := 2) (iRow iCX10_init_0 11 rfl) f10_18 (Or.inr ⟨rfl, rfl⟩) ko_11 rfl) ?_
  refine q_nmM (fun M6 => ?_)
  refine q_step (g_aload_n (iRow iCX10_init_0 12 rfl) rfl rfl) ?_
  refine q_step (g_sipush (iRow iCX10_init_0 13 rfl) ks_1024) ?_
  refine q_step (topA := 69) (cellsA := 3) (slotsA := 1032) (fun hh => g_newi (t0 := 66) (n := 0) (iRow iCX10_init_0 14 rfl) ac_int kn_55 ka_55 (by decide) kl_1024 rfl rfl rfl ⟨(by show _ ≤ 7; decide), (by show _ ≤ 2550; decide)⟩ hh) ?_
  refine q_nmM (fun M7 => ?_)
  refine q_step (g_putR (r := 1) (iRow iCX10_init_0 15 rfl) f10_21 (Or.inr ⟨rfl, rfl⟩) ko_11 rfl) ?_
  refine q_nmM (fun M8 => ?_)
  refine q_step (g_aload_n (iRow iCX10_init_0 16 rfl) rfl rfl) ?_
  refine q_step (g_sipush (iRow iCX10_init_0 17 rfl) ks_1024) ?_
  refine q_step (topA := 70) (cellsA := 4) (slotsA := 2056) (fun hh => g_newi (t0 := 66) (n := 0) (iRow iCX10_init_0 18 rfl) ac_int kn_56 ka_56 (by decide) kl_1024 rfl rfl rfl ⟨(by show _ ≤ 7; decide), (by show _ ≤ 2550; decide)⟩ hh) ?_
  refine q_nmM (fun M9 => ?_)
  refine q_step (g_putR (r := 1) (iRow iCX10_init_0 19 rfl) f10_25 (Or.inr ⟨rfl, rfl⟩) ko_11 rfl) ?_
  refine q_nmM (fun M10 => ?_)
  refine q_step (g_aload_n (iRow iCX10_init_0 20 rfl) rfl rfl) ?_
  refine q_step (g_bipush (iRow iCX10_init_0 21 rfl) kb_100) ?_
  refine q_step (topA := 71) (cellsA := 5) (slotsA := 2156) (fun hh => g_newi (t0 := 66) (n := 0) (iRow iCX10_init_0 22 rfl) ac_int kn_57 ka_57 (by decide) kl_100 rfl rfl rfl ⟨(by show _ ≤ 7; decide), (by show _ ≤ 2550; decide)⟩ hh) ?_
  refine q_nmM (fun M11 => ?_)
  refine q_step (g_putR (r := 1) (iRow iCX10_init_0 23 rfl) f10_28 (Or.inr ⟨rfl, rfl⟩) ko_11 rfl) ?_
  refine q_nmM (fun M12 => ?_)
  refine q_step (g_aload_n (iRow iCX10_init_1 0 rfl) rfl rfl) ?_
  refine q_step (g_bipush (iRow iCX10_init_1 1 rfl) kb_10) ?_
  refine q_step (topA := 72) (cellsA := 6) (slotsA := 2166) (fun hh => g_newi (t0 := 66) (n := 0) (iRow iCX10_init_1 2 rfl) ac_int kn_58 ka_58 (by decide) kl_10 rfl rfl rfl ⟨(by show _ ≤ 7; decide), (by show _ ≤ 2550; decide)⟩ hh) ?_
  refine q_nmM (fun M13 => ?_)
  refine q_step (g_putR (r := 1) (iRow iCX10_init_1 3 rfl) f10_31 (Or.inr ⟨rfl, rfl⟩) ko_11 rfl) ?_
  refine q_nmM (fun M14 => ?_)
  refine q_step (g_aload_n (iRow iCX10_init_1 4 rfl) rfl rfl) ?_
  refine q_step (g_sipush (iRow iCX10_init_1 5 rfl) ks_384) ?_
  refine q_step (topA := 73) (cellsA := 7) (slotsA := 2550) (fun hh => g_newi (t0 := 66) (n := 0) (iRow iCX10_init_1 6 rfl) ac_int kn_59 ka_59 (by decide) kl_384 rfl rfl rfl ⟨(by show _ ≤ 7; decide), (by show _ ≤ 2550; decide)⟩ hh) ?_
  refine q_nmM (fun M15 => ?_)
  refine q_step (g_putR (r := 1) (iRow iCX10_init_1 7 rfl) f10_34 (Or.inr ⟨rfl, rfl⟩) ko_11 rfl) ?_
  refine q_nmM (fun M16 => ?_)
  refine q_step (g_aload_n (iRow iCX10_init_1 8 rfl) rfl rfl) ?_
  refine q_step (g_aload_n (iRow iCX10_init_1 9 rfl) rfl rfl) ?_
  refine q_step (g_putR (r := 1) (iRow iCX10_init_1 10 rfl) f10_37 (Or.inr ⟨rfl, rfl⟩) ko_11 rfl) ?_
  refine q_nmM (fun M17 => ?_)
  refine q_step (g_aload_n (iRow iCX10_init_1 11 rfl) rfl rfl) ?_
  refine q_step (g_aload_n (iRow iCX10_init_1 12 rfl) rfl rfl) ?_
  refine q_step (g_putR (r := 1) (iRow iCX10_init_1 13 rfl) f10_41 (Or.inl rfl) ko_11 rfl) ?_
  refine q_nmM (fun M18 => ?_)
  exact q_retv (iRow iCX10_init_1 14 rfl) rfl
set_option maxHeartbeats 40000000 in
set_option maxRecDepth 20000 in
theorem j_X7_init_t74 {G : mg} {M M' : mm} (d : Nat) (h : i_X7_init_t74 M = some M') : CT G rdC yX7_init cX7_init 3 none (some 74) (d + 2) 8 30 74 82 [vR 8 0, vR 2 0] M none M' := by
  refine cc_v (ls := [some (vR 8 0), some (vR 2 0), none]) rfl rfl (Nat.le_of_ble_eq_true rfl) (fun Z => ?_) h
  show SG G rdC (mRm (d + 2) 8 30) (RX7, "<init>", cX7_init, 3, none, some 74) Z 74 0 0 0 [some (vR 8 0), some (vR 2 0), none] [] M _ _
  unfold i_X7_init_t74
  refine q_step (g_aload_n (iRow iCX7_init_0 0 rfl) rfl rfl) ?_
  refine q_step (g_objI (iRow iCX7_init_0 1 rfl) o7_3 ⟨by show 1 ≤ d + 2; omega, by show 20 ≤ 40 * (d + 2); omega⟩ (Nat.le_of_ble_eq_true rfl)) ?_
  refine q_step (g_aload_n (iRow iCX7_init_0 2 rfl) rfl rfl) ?_
  refine q_step (topA := 75) (cellsA := 1) (slotsA := 4) (fun hh => g_new (t0 := 74) (N := 4) (n := 2) (iRow iCX7_init_0 3 rfl) n7_9 rfl ko_5 rfl rfl rfl ⟨(by show _ ≤ 8; decide), (by show _ ≤ 30; decide)⟩ hh) ?_
  refine q_nmM (fun M1 => ?_)
  refine q_step (g_dup (iRow iCX7_init_0 4 rfl) rfl) ?_
  refine q_cv (topA := 75) (cellsA := 1) (slotsA := 4) (stA := [vR 5 2, vR 8 0]) (fun _ h hh => g_callIN (As := []) (r := none) (iRow iCX7_init_0 5 rfl) z7_11 ii_X4_init rfl rfl (j_X4_init (d + 0) h) ⟨by show _ + 1 ≤ d + 2; omega, by show 8 + (1 + 11) + 40 * _ ≤ 40 * (d + 2); omega⟩ (Nat.le_of_ble_eq_true rfl) ⟨(by show _ ≤ 8; decide), (by show _ ≤ 30; decide)⟩ mAl_none (by decide) hh) (fun M2 => ?_)
  refine q_step (g_putR (r := 3) (iRow iCX7_init_0 6 rfl) f7_12 (Or.inr ⟨rfl, rfl⟩) ko_8 rfl) ?_
  refine q_nmM (fun M3 => ?_)
  refine q_step (g_aload_n (iRow iCX7_init_0 7 rfl) rfl rfl) ?_
  refine q_step (g_iconst (iRow iCX7_init_0 8 rfl) kc_4) ?_
  refine q_step (topA := 76) (cellsA := 2) (slotsA := 8) (fun hh => g_newr (t0 := 74) (n := 0) (iRow iCX7_init_0 9 rfl) n7_9a ao_Moment kn_42 ka_42 (by decide) (by decide) kl_4 rfl rfl rfl ⟨(by show _ ≤ 8; decide), (by show _ ≤ 30; decide)⟩ hh) ?_
  refine q_nmM (fun M4 => ?_)
  refine q_step (g_putR (r := 1) (iRow iCX7_init_0 10 rfl) f7_18 (Or.inr ⟨rfl, rfl⟩) ko_8 rfl) ?_
  refine q_nmM (fun M5 => ?_)
  refine q_step (g_aload_n (iRow iCX7_init_0 11 rfl) rfl rfl) ?_
  refine q_step (g_iconst (iRow iCX7_init_0 12 rfl) kc_3) ?_
  refine q_step (topA := 77) (cellsA := 3) (slotsA := 11) (fun hh => g_newi (t0 := 74) (n := 0) (iRow iCX7_init_0 13 rfl) ac_int kn_43 ka_43 (by decide) kl_3 rfl rfl rfl ⟨(by show _ ≤ 8; decide), (by show _ ≤ 30; decide)⟩ hh) ?_
  refine q_nmM (fun M6 => ?_)
  refine q_step (g_putR (r := 1) (iRow iCX7_init_0 14 rfl) f7_22 (Or.inr ⟨rfl, rfl⟩) ko_8 rfl) ?_
  refine q_nmM (fun M7 => ?_)
  refine q_step (g_aload_n (iRow iCX7_init_0 15 rfl) rfl rfl) ?_
  refine q_step (g_iconst (iRow iCX7_init_0 16 rfl) kc_3) ?_
  refine q_step (topA := 78) (cellsA := 4) (slotsA := 14) (fun hh => g_newi (t0 := 74) (n := 0) (iRow iCX7_init_0 17 rfl) ac_int kn_44 ka_44 (by decide) kl_3 rfl rfl rfl ⟨(by show _ ≤ 8; decide), (by show _ ≤ 30; decide)⟩ hh) ?_
  refine q_nmM (fun M8 => ?_)
  refine q_step (g_putR (r := 1) (iRow iCX7_init_0 18 rfl) f7_26 (Or.inr ⟨rfl, rfl⟩) ko_8 rfl) ?_
  refine q_nmM (fun M9 => ?_)
  refine q_step (g_aload_n (iRow iCX7_init_0 19 rfl) rfl rfl) ?_
  refine q_step (g_aload_n (iRow iCX7_init_0 20 rfl) rfl rfl) ?_
  refine q_step (g_putR (r := 1) (iRow iCX7_init_0 21 rfl) f7_29 (Or.inr ⟨rfl, rfl⟩) ko_8 rfl) ?_
  refine q_nmM (fun M10 => ?_)
  refine q_step (g_iconst (iRow iCX7_init_0 22 rfl) kc_0) ?_
  refine q_step (g_istore_n (ls' := [some (vR 8 0), some (vR 2 0), some (vI (0 : Int32))]) (iRow iCX7_init_0 23 rfl) rfl (by decide) rfl) ?_
  refine q_step (g_iload_n (iRow iCX7_init_1 0 rfl) rfl rfl) ?_
  refine q_step (g_aload_n (iRow iCX7_init_1 1 rfl) rfl rfl) ?_
  refine q_gt (fun h => g_getR (v := vR 42 0) (iRow iCX7_init_1 2 rfl) f7_18 ko_8 (by rw [h]; rfl)) ?_
  refine q_step (g_alen (iRow iCX7_init_1 3 rfl) kn_42 ka_42 (by decide) (by decide) kl_4) ?_
  refine q_step (fun k => g_icmp_ge (tgt := 72) (iRow iCX7_init_1 4 rfl) (by decide) (fun h => absurd h (by decide)) (fun _ => k)) ?_
  refine q_step (g_aload_n (iRow iCX7_init_1 5 rfl) rfl rfl) ?_
  refine q_gt (fun h => g_getR (v := vR 42 0) (iRow iCX7_init_1 6 rfl) f7_18 ko_8 (by rw [h]; rfl)) ?_
  refine q_step (g_iload_n (iRow iCX7_init_1 7 rfl) rfl rfl) ?_
  refine q_step (topA := 79) (cellsA := 5) (slotsA := 18) (fun hh => g_new (t0 := 74) (N := 4) (n := 3) (iRow iCX7_init_1 8 rfl) n7_9 rfl ko_5 rfl rfl rfl ⟨(by show _ ≤ 8; decide), (by show _ ≤ 30; decide)⟩ hh) ?_
  refine q_nmM (fun M11 => ?_)
  refine q_step (g_dup (iRow iCX7_init_1 9 rfl) rfl) ?_
  refine q_cv (topA := 79) (cellsA := 5) (slotsA := 18) (stA := [vR 5 3, vI (0 : Int32), vR 42 0]) (fun _ h hh => g_callIN (As := []) (r := none) (iRow iCX7_init_1 10 rfl) z7_11 ii_X4_init rfl rfl (j_X4_init (d + 0) h) ⟨by show _ + 1 ≤ d + 2; omega, by show 8 + (1 + 11) + 40 * _ ≤ 40 * (d + 2); omega⟩ (Nat.le_of_ble_eq_true rfl) ⟨(by show _ ≤ 8; decide), (by show _ ≤ 30; decide)⟩ mAl_none (by decide) hh) (fun M12 => ?_)
  refine q_step (g_aast (iRow iCX7_init_1 11 rfl) kn_42 ka_42 (by decide) (fun _ => rfl) (vp_of (by decide)) ko_5 rfl rfl) ?_
  refine q_nmM (fun M13 => ?_)
  refine q_step (g_iinc (v := (1 : Int32)) (ls' := [some (vR 8 0), some (vR 2 0), some (vI (1 : Int32))]) (iRow iCX7_init_1 12 rfl) rfl (by decide) (by decide) rfl) ?_
  refine q_step (g_goto (tgt := 44) (iRow iCX7_init_1 13 rfl) (by decide)) ?_
  refine q_step (g_iload_n (iRow iCX7_init_1 0 rfl) rfl rfl) ?_
  refine q_step (g_aload_n (iRow iCX7_init_1 1 rfl) rfl rfl) ?_
  refine q_gt (fun h => g_getR (v := vR 42 0) (iRow iCX7_init_1 2 rfl) f7_18 ko_8 (by rw [h]; rfl)) ?_
  refine q_step (g_alen (iRow iCX7_init_1 3 rfl) kn_42 ka_42 (by decide) (by decide) kl_4) ?_
  refine q_step (fun k => g_icmp_ge (tgt := 72) (iRow iCX7_init_1 4 rfl) (by decide) (fun h => absurd h (by decide)) (fun _ => k)) ?_
  refine q_step (g_aload_n (iRow iCX7_init_1 5 rfl) rfl rfl) ?_
  refine q_gt (fun h => g_getR (v := vR 42 0) (iRow iCX7_init_1 6 rfl) f7_18 ko_8 (by rw [h]; rfl)) ?_
  refine q_step (g_iload_n (iRow iCX7_init_1 7 rfl) rfl rfl) ?_
  refine q_step (topA := 80) (cellsA := 6) (slotsA := 22) (fun hh => g_new (t0 := 74) (N := 4) (n := 4) (iRow iCX7_init_1 8 rfl) n7_9 rfl ko_5 rfl rfl rfl ⟨(by show _ ≤ 8; decide), (by show _ ≤ 30; decide)⟩ hh) ?_
  refine q_nmM (fun M14 => ?_)
  refine q_step (g_dup (iRow iCX7_init_1 9 rfl) rfl) ?_
  refine q_cv (topA := 80) (cellsA := 6) (slotsA := 22) (stA := [vR 5 4, vI (1 : Int32), vR 42 0]) (fun _ h hh => g_callIN (As := []) (r := none) (iRow iCX7_init_1 10 rfl) z7_11 ii_X4_init rfl rfl (j_X4_init (d + 0) h) ⟨by show _ + 1 ≤ d + 2; omega, by show 8 + (1 + 11) + 40 * _ ≤ 40 * (d + 2); omega⟩ (Nat.le_of_ble_eq_true rfl) ⟨(by show _ ≤ 8; decide), (by show _ ≤ 30; decide)⟩ mAl_none (by decide) hh) (fun M15 => ?_)
  refine q_step (g_aast (iRow iCX7_init_1 11 rfl) kn_42 ka_42 (by decide) (fun _ => rfl) (vp_of (by decide)) ko_5 rfl rfl) ?_
  refine q_nmM (fun M16 => ?_)
  refine q_step (g_iinc (v := (2 : Int32)) (ls' := [some (vR 8 0), some (vR 2 0), some (vI (2 : Int32))]) (iRow iCX7_init_1 12 rfl) rfl (by decide) (by decide) rfl) ?_
  refine q_step (g_goto (tgt := 44) (iRow iCX7_init_1 13 rfl) (by decide)) ?_
  refine q_step (g_iload_n (iRow iCX7_init_1 0 rfl) rfl rfl) ?_
  refine q_step (g_aload_n (iRow iCX7_init_1 1 rfl) rfl rfl) ?_
  refine q_gt (fun h => g_getR (v := vR 42 0) (iRow iCX7_init_1 2 rfl) f7_18 ko_8 (by rw [h]; rfl)) ?_
  refine q_step (g_alen (iRow iCX7_init_1 3 rfl) kn_42 ka_42 (by decide) (by decide) kl_4) ?_
  refine q_step (fun k => g_icmp_ge (tgt := 72) (iRow iCX7_init_1 4 rfl) (by decide) (fun h => absurd h (by decide)) (fun _ => k)) ?_
  refine q_step (g_aload_n (iRow iCX7_init_1 5 rfl) rfl rfl) ?_
  refine q_gt (fun h => g_getR (v := vR 42 0) (iRow iCX7_init_1 6 rfl) f7_18 ko_8 (by rw [h]; rfl)) ?_
  refine q_step (g_iload_n (iRow iCX7_init_1 7 rfl) rfl rfl) ?_
  refine q_step (topA := 81) (cellsA := 7) (slotsA := 26) (fun hh => g_new (t0 := 74) (N := 4) (n := 5) (iRow iCX7_init_1 8 rfl) n7_9 rfl ko_5 rfl rfl rfl ⟨(by show _ ≤ 8; decide), (by show _ ≤ 30; decide)⟩ hh) ?_
  refine q_nmM (fun M17 => ?_)
  refine q_step (g_dup (iRow iCX7_init_1 9 rfl) rfl) ?_
  refine q_cv (topA := 81) (cellsA := 7) (slotsA := 26) (stA := [vR 5 5, vI (2 : Int32), vR 42 0]) (fun _ h hh => g_callIN (As := []) (r := none) (iRow iCX7_init_1 10 rfl) z7_11 ii_X4_init rfl rfl (j_X4_init (d + 0) h) ⟨by show _ + 1 ≤ d + 2; omega, by show 8 + (1 + 11) + 40 * _ ≤ 40 * (d + 2); omega⟩ (Nat.le_of_ble_eq_true rfl) ⟨(by show _ ≤ 8; decide), (by show _ ≤ 30; decide)⟩ mAl_none (by decide) hh) (fun M18 => ?_)
  refine q_step (g_aast (iRow iCX7_init_1 11 rfl) kn_42 ka_42 (by decide) (fun _ => rfl) (vp_of (by decide)) ko_5 rfl rfl) ?_
  refine q_nmM (fun M19 => ?_)
  refine q_step (g_iinc (v := (3 : Int32)) (ls' := [some (vR 8 0), some (vR 2 0), some (vI (3 : Int32))]) (iRow iCX7_init_1 12 rfl) rfl (by decide) (by decide) rfl) ?_
  refine q_step (g_goto (tgt := 44) (iRow iCX7_init_1 13 rfl) (by decide)) ?_
  refine q_step (g_iload_n (iRow iCX7_init_1 0 rfl) rfl rfl) ?_
  refine q_step (g_aload_n (iRow iCX7_init_1 1 rfl) rfl rfl) ?_
  refine q_gt (fun h => g_getR (v := vR 42 0) (iRow iCX7_init_1 2 rfl) f7_18 ko_8 (by rw [h]; rfl)) ?_
  refine q_step (g_alen (iRow iCX7_init_1 3 rfl) kn_42 ka_42 (by decide) (by decide) kl_4) ?_
  refine q_step (fun k => g_icmp_ge (tgt := 72) (iRow iCX7_init_1 4 rfl) (by decide) (fun h => absurd h (by decide)) (fun _ => k)) ?_
  refine q_step (g_aload_n (iRow iCX7_init_1 5 rfl) rfl rfl) ?_
  refine q_gt (fun h => g_getR (v := vR 42 0) (iRow iCX7_init_1 6 rfl) f7_18 ko_8 (by rw [h]; rfl)) ?_
  refine q_step (g_iload_n (iRow iCX7_init_1 7 rfl) rfl rfl) ?_
  refine q_step (topA := 82) (cellsA := 8) (slotsA := 30) (fun hh => g_new (t0 := 74) (N := 4) (n := 6) (iRow iCX7_init_1 8 rfl) n7_9 rfl ko_5 rfl rfl rfl ⟨(by show _ ≤ 8; decide), (by show _ ≤ 30; decide)⟩ hh) ?_
  refine q_nmM (fun M20 => ?_)
  refine q_step (g_dup (iRow iCX7_init_1 9 rfl) rfl) ?_
  refine q_cv (topA := 82) (cellsA := 8) (slotsA := 30) (stA := [vR 5 6, vI (3 : Int32), vR 42 0]) (fun _ h hh => g_callIN (As := []) (r := none) (iRow iCX7_init_1 10 rfl) z7_11 ii_X4_init rfl rfl (j_X4_init (d + 0) h) ⟨by show _ + 1 ≤ d + 2; omega, by show 8 + (1 + 11) + 40 * _ ≤ 40 * (d + 2); omega⟩ (Nat.le_of_ble_eq_true rfl) ⟨(by show _ ≤ 8; decide), (by show _ ≤ 30; decide)⟩ mAl_none (by decide) hh) (fun M21 => ?_)
  refine q_step (g_aast (iRow iCX7_init_1 11 rfl) kn_42 ka_42 (by decide) (fun _ => rfl) (vp_of (by decide)) ko_5 rfl rfl) ?_
  refine q_nmM (fun M22 => ?_)
  refine q_step (g_iinc (v := (4 : Int32)) (ls' := [some (vR 8 0), some (vR 2 0), some (vI (4 : Int32))]) (iRow iCX7_init_1 12 rfl) rfl (by decide) (by decide) rfl) ?_
  refine q_step (g_goto (tgt := 44) (iRow iCX7_init_1 13 rfl) (by decide)) ?_
  refine q_step (g_iload_n (iRow iCX7_init_1 0 rfl) rfl rfl) ?_
  refine q_step (g_aload_n (iRow iCX7_init_1 1 rfl) rfl rfl) ?_
  refine q_gt (fun h => g_getR (v := vR 42 0) (iRow iCX7_init_1 2 rfl) f7_18 ko_8 (by rw [h]; rfl)) ?_
  refine q_step (g_alen (iRow iCX7_init_1 3 rfl) kn_42 ka_42 (by decide) (by decide) kl_4) ?_
  refine q_step (fun k => g_icmp_ge (tgt := 72) (iRow iCX7_init_1 4 rfl) (by decide) (fun _ => k) (fun h => absurd h (by decide))) ?_
  exact q_retv (iRow iCX7_init_1 14 rfl) rfl
set_option maxHeartbeats 40000000 in
set_option maxRecDepth 20000 in
theorem j_X8_init_t105 {G : mg} {M M' : mm} (d : Nat) (h : i_X8_init_t105 M = some M') : CT G rdC yX8_init cX8_init 1 none (some 105) (d + 1) 2 80 105 107 [vR 9 2] M none M' := by
  refine cc_v (ls := [some (vR 9 2)]) rfl rfl (Nat.le_of_ble_eq_true rfl) (fun Z => ?_) h
  show SG G rdC (mRm (d + 1) 2 80) (RX8, "<init>", cX8_init, 1, none, some 105) Z 105 0 0 0 [some (vR 9 2)] [] M _ _
  unfold i_X8_init_t105
  refine q_step (g_aload_n (iRow iCX8_init_0 0 rfl) rfl rfl) ?_
  refine q_step (g_objI (iRow iCX8_init_0 1 rfl) o8_3 ⟨by show 1 ≤ d + 1; omega, by show 20 ≤ 40 * (d + 1); omega⟩ (Nat.le_of_ble_eq_true rfl)) ?_
  refine q_step (g_aload_n (iRow iCX8_init_0 2 rfl) rfl rfl) ?_
  refine q_step (g_bipush (iRow iCX8_init_0 3 rfl) kb_40) ?_
  refine q_step (topA := 106) (cellsA := 1) (slotsA := 40) (fun hh => g_newi (t0 := 105) (n := 2) (iRow iCX8_init_0 4 rfl) ac_int kn_45 ka_45 (by decide) kl_40 rfl rfl rfl ⟨(by show _ ≤ 2; decide), (by show _ ≤ 80; decide)⟩ hh) ?_
  refine q_nmM (fun M1 => ?_)
  refine q_step (g_putR (r := 3) (iRow iCX8_init_0 5 rfl) f8_9 (Or.inr ⟨rfl, rfl⟩) ko_9 rfl) ?_
  refine q_nmM (fun M2 => ?_)
  refine q_step (g_aload_n (iRow iCX8_init_0 6 rfl) rfl rfl) ?_
  refine q_step (g_bipush (iRow iCX8_init_0 7 rfl) kb_40) ?_
  refine q_step (topA := 107) (cellsA := 2) (slotsA := 80) (fun hh => g_newi (t0 := 105) (n := 2) (iRow iCX8_init_0 8 rfl) ac_int kn_46 ka_46 (by decide) kl_40 rfl rfl rfl ⟨(by show _ ≤ 2; decide), (by show _ ≤ 80; decide)⟩ hh) ?_
  refine q_nmM (fun M3 => ?_)
  refine q_step (g_putR (r := 3) (iRow iCX8_init_0 9 rfl) f8_15 (Or.inr ⟨rfl, rfl⟩) ko_9 rfl) ?_
  refine q_nmM (fun M4 => ?_)
  exact q_retv (iRow iCX8_init_0 10 rfl) rfl
set_option maxHeartbeats 40000000 in
set_option maxRecDepth 20000 in
theorem j_X8_init_t109 {G : mg} {M M' : mm} (d : Nat) (h : i_X8_init_t109 M = some M') : CT G rdC yX8_init cX8_init 1 none (some 109) (d + 1) 2 80 109 111 [vR 9 3] M none M' := by
  refine cc_v (ls := [some (vR 9 3)]) rfl rfl (Nat.le_of_ble_eq_true rfl) (fun Z => ?_) h
  show SG G rdC (mRm (d + 1) 2 80) (RX8, "<init>", cX8_init, 1, none, some 109) Z 109 0 0 0 [some (vR 9 3)] [] M _ _
  unfold i_X8_init_t109
  refine q_step (g_aload_n (iRow iCX8_init_0 0 rfl) rfl rfl) ?_
  refine q_step (g_objI (iRow iCX8_init_0 1 rfl) o8_3 ⟨by show 1 ≤ d + 1; omega, by show 20 ≤ 40 * (d + 1); omega⟩ (Nat.le_of_ble_eq_true rfl)) ?_
  refine q_step (g_aload_n (iRow iCX8_init_0 2 rfl) rfl rfl) ?_
  refine q_step (g_bipush (iRow iCX8_init_0 3 rfl) kb_40) ?_
  refine q_step (topA := 110) (cellsA := 1) (slotsA := 40) (fun hh => g_newi (t0 := 109) (n := 3) (iRow iCX8_init_0 4 rfl) ac_int kn_45 ka_45 (by decide) kl_40 rfl rfl rfl ⟨(by show _ ≤ 2; decide), (by show _ ≤ 80; decide)⟩ hh) ?_
  refine q_nmM (fun M1 => ?_)
  refine q_step (g_putR (r := 4) (iRow iCX8_init_0 5 rfl) f8_9 (Or.inr ⟨rfl, rfl⟩) ko_9 rfl) ?_
  refine q_nmM (fun M2 => ?_)
  refine q_step (g_aload_n (iRow iCX8_init_0 6 rfl) rfl rfl) ?_
  refine q_step (g_bipush (iRow iCX8_init_0 7 rfl) kb_40) ?_
  refine q_step (topA := 111) (cellsA := 2) (slotsA := 80) (fun hh => g_newi (t0 := 109) (n := 3) (iRow iCX8_init_0 8 rfl) ac_int kn_46 ka_46 (by decide) kl_40 rfl rfl rfl ⟨(by show _ ≤ 2; decide), (by show _ ≤ 80; decide)⟩ hh) ?_
  refine q_nmM (fun M3 => ?_)
  refine q_step (g_putR (r := 4) (iRow iCX8_init_0 9 rfl) f8_15 (Or.inr ⟨rfl, rfl⟩) ko_9 rfl) ?_
  refine q_nmM (fun M4 => ?_)
  exact q_retv (iRow iCX8_init_0 10 rfl) rfl
set_option maxHeartbeats 40000000 in
set_option maxRecDepth 20000 in
theorem j_X8_init_t113 {G : mg} {M M' : mm} (d : Nat) (h : i_X8_init_t113 M = some M') : CT G rdC yX8_init cX8_init 1 none (some 113) (d + 1) 2 80 113 115 [vR 9 4] M none M' := by
  refine cc_v (ls := [some (vR 9 4)]) rfl rfl (Nat.le_of_ble_eq_true rfl) (fun Z => ?_) h
  show SG G rdC (mRm (d + 1) 2 80) (RX8, "<init>", cX8_init, 1, none, some 113) Z 113 0 0 0 [some (vR 9 4)] [] M _ _
  unfold i_X8_init_t113
  refine q_step (g_aload_n (iRow iCX8_init_0 0 rfl) rfl rfl) ?_
  refine q_step (g_objI (iRow iCX8_init_0 1 rfl) o8_3 ⟨by show 1 ≤ d + 1; omega, by show 20 ≤ 40 * (d + 1); omega⟩ (Nat.le_of_ble_eq_true rfl)) ?_
  refine q_step (g_aload_n (iRow iCX8_init_0 2 rfl) rfl rfl) ?_
  refine q_step (g_bipush (iRow iCX8_init_0 3 rfl) kb_40) ?_
  refine q_step (topA := 114) (cellsA := 1) (slotsA := 40) (fun hh => g_newi (t0 := 113) (n := 4) (iRow iCX8_init_0 4 rfl) ac_int kn_45 ka_45 (by decide) kl_40 rfl rfl rfl ⟨(by show _ ≤ 2; decide), (by show _ ≤ 80; decide)⟩ hh) ?_
  refine q_nmM (fun M1 => ?_)
  refine q_step (g_putR (r := 5) (iRow iCX8_init_0 5 rfl) f8_9 (Or.inr ⟨rfl, rfl⟩) ko_9 rfl) ?_
  refine q_nmM (fun M2 => ?_)
  refine q_step (g_aload_n (iRow iCX8_init_0 6 rfl) rfl rfl) ?_
  refine q_step (g_bipush (iRow iCX8_init_0 7 rfl) kb_40) ?_
  refine q_step (topA := 115) (cellsA := 2) (slotsA := 80) (fun hh => g_newi (t0 := 113) (n := 4) (iRow iCX8_init_0 8 rfl) ac_int kn_46 ka_46 (by decide) kl_40 rfl rfl rfl ⟨(by show _ ≤ 2; decide), (by show _ ≤ 80; decide)⟩ hh) ?_
  refine q_nmM (fun M3 => ?_)
  refine q_step (g_putR (r := 5) (iRow iCX8_init_0 9 rfl) f8_15 (Or.inr ⟨rfl, rfl⟩) ko_9 rfl) ?_
  refine q_nmM (fun M4 => ?_)
  exact q_retv (iRow iCX8_init_0 10 rfl) rfl
set_option maxHeartbeats 40000000 in
set_option maxRecDepth 20000 in
theorem j_X8_init_t117 {G : mg} {M M' : mm} (d : Nat) (h : i_X8_init_t117 M = some M') : CT G rdC yX8_init cX8_init 1 none (some 117) (d + 1) 2 80 117 119 [vR 9 5] M none M' := by
  refine cc_v (ls := [some (vR 9 5)]) rfl rfl (Nat.le_of_ble_eq_true rfl) (fun Z => ?_) h
  show SG G rdC (mRm (d + 1) 2 80) (RX8, "<init>", cX8_init, 1, none, some 117) Z 117 0 0 0 [some (vR 9 5)] [] M _ _
  unfold i_X8_init_t117
  refine q_step (g_aload_n (iRow iCX8_init_0 0 rfl) rfl rfl) ?_
  refine q_step (g_objI (iRow iCX8_init_0 1 rfl) o8_3 ⟨by show 1 ≤ d + 1; omega, by show 20 ≤ 40 * (d + 1); omega⟩ (Nat.le_of_ble_eq_true rfl)) ?_
  refine q_step (g_aload_n (iRow iCX8_init_0 2 rfl) rfl rfl) ?_
  refine q_step (g_bipush (iRow iCX8_init_0 3 rfl) kb_40) ?_
  refine q_step (topA := 118) (cellsA := 1) (slotsA := 40) (fun hh => g_newi (t0 := 117) (n := 5) (iRow iCX8_init_0 4 rfl) ac_int kn_45 ka_45 (by decide) kl_40 rfl rfl rfl ⟨(by show _ ≤ 2; decide), (by show _ ≤ 80; decide)⟩ hh) ?_
  refine q_nmM (fun M1 => ?_)
  refine q_step (g_putR (r := 6) (iRow iCX8_init_0 5 rfl) f8_9 (Or.inr ⟨rfl, rfl⟩) ko_9 rfl) ?_
  refine q_nmM (fun M2 => ?_)
  refine q_step (g_aload_n (iRow iCX8_init_0 6 rfl) rfl rfl) ?_
  refine q_step (g_bipush (iRow iCX8_init_0 7 rfl) kb_40) ?_
  refine q_step (topA := 119) (cellsA := 2) (slotsA := 80) (fun hh => g_newi (t0 := 117) (n := 5) (iRow iCX8_init_0 8 rfl) ac_int kn_46 ka_46 (by decide) kl_40 rfl rfl rfl ⟨(by show _ ≤ 2; decide), (by show _ ≤ 80; decide)⟩ hh) ?_
  refine q_nmM (fun M3 => ?_)
  refine q_step (g_putR (r := 6) (iRow iCX8_init_0 9 rfl) f8_15 (Or.inr ⟨rfl, rfl⟩) ko_9 rfl) ?_
  refine q_nmM (fun M4 => ?_)
  exact q_retv (iRow iCX8_init_0 10 rfl) rfl
