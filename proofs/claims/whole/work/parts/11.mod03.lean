def b_X12_moves_73_1c (F : Nat) (a2 : Int32) (x1 : Int32) (M2 : mm) : Option ((Int32 × mm) ⊕ (mm)) :=
  if a2 ≤ x1 then
    some (.inr M2)
  else
    gi (a2 + x1) 20 <|
    gi x1 20 <|
    nm (sI M2 73 0 (Int32.toNatClampNeg x1) (M2.1 73 0 (Int32.toNatClampNeg (a2 + x1)))) fun M3 =>
    some (.inl ((x1 + (1 : Int32)), M3))
def b_X12_moves_73_1 (F : Nat) (a2 : Int32) : (Int32 × mm) → Option ((Int32 × mm) ⊕ (mm)) := fun z => b_X12_moves_73_1c F a2 z.1 z.2
def m_X12_moves_73 (F : Nat) (a2 : Int32) (M : mm) : Option (mm) :=
  bd (lp (b_X12_moves_73_1 F a2) F ((0 : Int32), M))
    (fun M4 =>
      some M4)
def b_X12_moves_74_1c (F : Nat) (a2 : Int32) (x1 : Int32) (M2 : mm) : Option ((Int32 × mm) ⊕ (mm)) :=
  if a2 ≤ x1 then
    some (.inr M2)
  else
    gi (a2 + x1) 20 <|
    gi x1 20 <|
    nm (sI M2 74 0 (Int32.toNatClampNeg x1) (M2.1 74 0 (Int32.toNatClampNeg (a2 + x1)))) fun M3 =>
    some (.inl ((x1 + (1 : Int32)), M3))
def b_X12_moves_74_1 (F : Nat) (a2 : Int32) : (Int32 × mm) → Option ((Int32 × mm) ⊕ (mm)) := fun z => b_X12_moves_74_1c F a2 z.1 z.2
def m_X12_moves_74 (F : Nat) (a2 : Int32) (M : mm) : Option (mm) :=
  bd (lp (b_X12_moves_74_1 F a2) F ((0 : Int32), M))
    (fun M4 =>
      some M4)
def b_X12_moves_75_1c (F : Nat) (a2 : Int32) (x1 : Int32) (M2 : mm) : Option ((Int32 × mm) ⊕ (mm)) :=
  if a2 ≤ x1 then
    some (.inr M2)
  else
    gi (a2 + x1) 22 <|
    gi x1 22 <|
    nm (sI M2 75 0 (Int32.toNatClampNeg x1) (M2.1 75 0 (Int32.toNatClampNeg (a2 + x1)))) fun M3 =>
    some (.inl ((x1 + (1 : Int32)), M3))
def b_X12_moves_75_1 (F : Nat) (a2 : Int32) : (Int32 × mm) → Option ((Int32 × mm) ⊕ (mm)) := fun z => b_X12_moves_75_1c F a2 z.1 z.2
def m_X12_moves_75 (F : Nat) (a2 : Int32) (M : mm) : Option (mm) :=
  bd (lp (b_X12_moves_75_1 F a2) F ((0 : Int32), M))
    (fun M4 =>
      some M4)
def b_X12_moves_76_1c (F : Nat) (a2 : Int32) (x1 : Int32) (M2 : mm) : Option ((Int32 × mm) ⊕ (mm)) :=
  if a2 ≤ x1 then
    some (.inr M2)
  else
    gi (a2 + x1) 20 <|
    gi x1 20 <|
    nm (sI M2 76 0 (Int32.toNatClampNeg x1) (M2.1 76 0 (Int32.toNatClampNeg (a2 + x1)))) fun M3 =>
    some (.inl ((x1 + (1 : Int32)), M3))
def b_X12_moves_76_1 (F : Nat) (a2 : Int32) : (Int32 × mm) → Option ((Int32 × mm) ⊕ (mm)) := fun z => b_X12_moves_76_1c F a2 z.1 z.2
def m_X12_moves_76 (F : Nat) (a2 : Int32) (M : mm) : Option (mm) :=
  bd (lp (b_X12_moves_76_1 F a2) F ((0 : Int32), M))
    (fun M4 =>
      some M4)
def b_X12_moves_77_1c (F : Nat) (a2 : Int32) (x1 : Int32) (M2 : mm) : Option ((Int32 × mm) ⊕ (mm)) :=
  if a2 ≤ x1 then
    some (.inr M2)
  else
    gi (a2 + x1) 22 <|
    gi x1 22 <|
    nm (sI M2 77 0 (Int32.toNatClampNeg x1) (M2.1 77 0 (Int32.toNatClampNeg (a2 + x1)))) fun M3 =>
    some (.inl ((x1 + (1 : Int32)), M3))
def b_X12_moves_77_1 (F : Nat) (a2 : Int32) : (Int32 × mm) → Option ((Int32 × mm) ⊕ (mm)) := fun z => b_X12_moves_77_1c F a2 z.1 z.2
def m_X12_moves_77 (F : Nat) (a2 : Int32) (M : mm) : Option (mm) :=
  bd (lp (b_X12_moves_77_1 F a2) F ((0 : Int32), M))
    (fun M4 =>
      some M4)
def b_X12_moves_78_1c (F : Nat) (a2 : Int32) (x1 : Int32) (M2 : mm) : Option ((Int32 × mm) ⊕ (mm)) :=
  if a2 ≤ x1 then
    some (.inr M2)
  else
    gi (a2 + x1) 22 <|
    gi x1 22 <|
    nm (sI M2 78 0 (Int32.toNatClampNeg x1) (M2.1 78 0 (Int32.toNatClampNeg (a2 + x1)))) fun M3 =>
    some (.inl ((x1 + (1 : Int32)), M3))
def b_X12_moves_78_1 (F : Nat) (a2 : Int32) : (Int32 × mm) → Option ((Int32 × mm) ⊕ (mm)) := fun z => b_X12_moves_78_1c F a2 z.1 z.2
def m_X12_moves_78 (F : Nat) (a2 : Int32) (M : mm) : Option (mm) :=
  bd (lp (b_X12_moves_78_1 F a2) F ((0 : Int32), M))
    (fun M4 =>
      some M4)
def b_X12_moves_81_1c (F : Nat) (a2 : Int32) (x1 : Int32) (M2 : mm) : Option ((Int32 × mm) ⊕ (mm)) :=
  if a2 ≤ x1 then
    some (.inr M2)
  else
    gi (a2 + x1) 2000 <|
    gi x1 2000 <|
    nm (sI M2 81 0 (Int32.toNatClampNeg x1) (M2.1 81 0 (Int32.toNatClampNeg (a2 + x1)))) fun M3 =>
    some (.inl ((x1 + (1 : Int32)), M3))
def b_X12_moves_81_1 (F : Nat) (a2 : Int32) : (Int32 × mm) → Option ((Int32 × mm) ⊕ (mm)) := fun z => b_X12_moves_81_1c F a2 z.1 z.2
def m_X12_moves_81 (F : Nat) (a2 : Int32) (M : mm) : Option (mm) :=
  bd (lp (b_X12_moves_81_1 F a2) F ((0 : Int32), M))
    (fun M4 =>
      some M4)
def m_X12_lays (F : Nat) (M : mm) : Option (mm) :=
  cv (m_X12_moves_64 F (6 : Int32) M) fun M1 =>
  cv (m_X12_movesNames_65 F (6 : Int32) M1) fun M2 =>
  cv (m_X12_movesNames_66 F (10 : Int32) M2) fun M3 =>
  cv (m_X12_movesNames_67 F (10 : Int32) M3) fun M4 =>
  cv (m_X12_moves_68 F (6 : Int32) M4) fun M5 =>
  cv (m_X12_moves_69 F (6 : Int32) M5) fun M6 =>
  cv (m_X12_moves_70 F (10 : Int32) M6) fun M7 =>
  cv (m_X12_moves_71 F (10 : Int32) M7) fun M8 =>
  cv (m_X12_moves_72 F (10 : Int32) M8) fun M9 =>
  cv (m_X12_moves_73 F (10 : Int32) M9) fun M10 =>
  cv (m_X12_moves_74 F (10 : Int32) M10) fun M11 =>
  cv (m_X12_moves_75 F (11 : Int32) M11) fun M12 =>
  cv (m_X12_moves_76 F (10 : Int32) M12) fun M13 =>
  cv (m_X12_moves_77 F (11 : Int32) M13) fun M14 =>
  cv (m_X12_moves_78 F (11 : Int32) M14) fun M15 =>
  cv (m_X12_moves_81 F (1000 : Int32) M15) fun M16 =>
  gi (1 : Int32) 2 <|
  gi (0 : Int32) 2 <|
  nm (sI M16 79 0 (Int32.toNatClampNeg (0 : Int32)) ((M16.1 79 0 (Int32.toNatClampNeg (1 : Int32))) - (1000 : Int32))) fun M17 =>
  gi (1 : Int32) 2 <|
  gi (0 : Int32) 2 <|
  nm (sI M17 80 0 (Int32.toNatClampNeg (0 : Int32)) ((M17.1 80 0 (Int32.toNatClampNeg (1 : Int32))) - (1000 : Int32))) fun M18 =>
  some M18
def m_X12_readsLine (F : Nat) (M : mm) : Option (Bool × mm) :=
  cb (m_X12_isWord F (1420859 : Int64) M) fun b2 M1 =>
  bd (
    if b2 = true then
      some ((0 : Int32), M1)
    else
      cb (m_X12_isWord F (2549467418 : Int64) M1) fun b4 M3 =>
      if b4 = true then
        some ((1 : Int32), M3)
      else
        cb (m_X12_isWord F (9592700 : Int64) M3) fun b6 M5 =>
        if b6 = true then
          some ((2 : Int32), M5)
        else
          cb (m_X12_isWord F (495765 : Int64) M5) fun b8 M7 =>
          if b8 = true then
            some ((3 : Int32), M7)
          else
            some ((-1 : Int32), M7)
  ) (fun z => match z with
      | (x9, M10) =>
        if (0 : Int32) ≤ x9 then
          gi (5 : Int32) 6 <|
          if (M10.1 94 0 (Int32.toNatClampNeg (5 : Int32))) = (40 : Int32) then
            cb (m_X12_fails F (5 : Int32) M10) fun b33 M32 =>
            some (b33, M32)
          else
            cv (m_X12_nextToken F M10) fun M11 =>
            gi (5 : Int32) 6 <|
            nm ((200 : Int32) + (M11.1 94 0 (Int32.toNatClampNeg (5 : Int32)))) fun x12 =>
            gi x12 240 <|
            nm (sI M11 95 0 (Int32.toNatClampNeg x12) x9) fun M13 =>
            nm (fun (M28 : mm) =>
              gi (5 : Int32) 6 <|
              gi (5 : Int32) 6 <|
              nm (sI M28 94 0 (Int32.toNatClampNeg (5 : Int32)) ((M28.1 94 0 (Int32.toNatClampNeg (5 : Int32))) + (1 : Int32))) fun M29 =>
              cb (m_X12_closes F M29) fun b31 M30 =>
              some (b31, M30)) fun j187 =>
            if (2 : Int32) ≤ x9 then
              if x9 = (2 : Int32) then
                cb (m_X12_isKept F M13) fun b15 M14 =>
                if b15 = true then
                  cb (m_X12_fails F (1 : Int32) M14) fun b23 M22 =>
                  some (b23, M22)
                else
                  cl (m_X12_stoneNamed F (0 : Int32) M14) fun x17 M16 =>
                  gi x12 240 <|
                  nm (sI M16 96 0 (Int32.toNatClampNeg x12) x17) fun M18 =>
                  gi x12 240 <|
                  if (0 : Int32) ≤ (M18.1 96 0 (Int32.toNatClampNeg x12)) then
                    cv (m_X12_nextToken F M18) fun M19 =>
                    j187 M19
                  else
                    cb (m_X12_fails F (2 : Int32) M18) fun b21 M20 =>
                    some (b21, M20)
              else
                j187 M13
            else
              cb (m_X12_needsOath F (0 : Int32) M13) fun b25 M24 =>
              if b25 = true then
                gi x12 240 <|
                nm (sI M24 96 0 (Int32.toNatClampNeg x12) (M24.1 13 0 42)) fun M26 =>
                cv (m_X12_nextToken F M26) fun M27 =>
                j187 M27
              else
                some (false, M24)
        else
          cb (m_X12_fails F (1 : Int32) M10) fun b35 M34 =>
          some (b35, M34))
def b_X12_laysLines_1c (F : Nat) (a1 : Int32) (a2 : Int32) (x2 : Int32) (M3 : mm) : Option ((Int32 × mm) ⊕ (mm)) :=
  if (40 : Int32) ≤ x2 then
    some (.inr M3)
  else
    gi (((40 : Int32) * a1) + x2) 240 <|
    gi (((40 : Int32) * a2) + x2) 240 <|
    nm (sI M3 95 0 (Int32.toNatClampNeg (((40 : Int32) * a2) + x2)) (M3.1 95 0 (Int32.toNatClampNeg (((40 : Int32) * a1) + x2)))) fun M4 =>
    gi (((40 : Int32) * a1) + x2) 240 <|
    gi (((40 : Int32) * a2) + x2) 240 <|
    nm (sI M4 96 0 (Int32.toNatClampNeg (((40 : Int32) * a2) + x2)) (M4.1 96 0 (Int32.toNatClampNeg (((40 : Int32) * a1) + x2)))) fun M5 =>
    some (.inl ((x2 + (1 : Int32)), M5))
def b_X12_laysLines_1 (F : Nat) (a1 : Int32) (a2 : Int32) : (Int32 × mm) → Option ((Int32 × mm) ⊕ (mm)) := fun z => b_X12_laysLines_1c F a1 a2 z.1 z.2
def m_X12_laysLines (F : Nat) (a1 : Int32) (a2 : Int32) (M : mm) : Option (mm) :=
  gi a1 6 <|
  gi a2 6 <|
  nm (sI M 94 0 (Int32.toNatClampNeg a2) (M.1 94 0 (Int32.toNatClampNeg a1))) fun M1 =>
  bd (lp (b_X12_laysLines_1 F a1 a2) F ((0 : Int32), M1))
    (fun M6 =>
      some M6)
def b_X12_laysHeard_1c (F : Nat) (a1 : Int32) (a2 : Int32) (x2 : Int32) (M3 : mm) : Option ((Int32 × mm) ⊕ (mm)) :=
  if (10 : Int32) ≤ x2 then
    some (.inr M3)
  else
    gi (((10 : Int32) * a1) + x2) 50 <|
    gi (((10 : Int32) * a2) + x2) 50 <|
    nm (sI M3 98 0 (Int32.toNatClampNeg (((10 : Int32) * a2) + x2)) (M3.1 98 0 (Int32.toNatClampNeg (((10 : Int32) * a1) + x2)))) fun M4 =>
    gi (((10 : Int32) * a1) + x2) 50 <|
    gi (((10 : Int32) * a2) + x2) 50 <|
    nm (sI M4 99 0 (Int32.toNatClampNeg (((10 : Int32) * a2) + x2)) (vp_nar .boolean (M4.1 99 0 (Int32.toNatClampNeg (((10 : Int32) * a1) + x2))))) fun M5 =>
    some (.inl ((x2 + (1 : Int32)), M5))
def b_X12_laysHeard_1 (F : Nat) (a1 : Int32) (a2 : Int32) : (Int32 × mm) → Option ((Int32 × mm) ⊕ (mm)) := fun z => b_X12_laysHeard_1c F a1 a2 z.1 z.2
def m_X12_laysHeard (F : Nat) (a1 : Int32) (a2 : Int32) (M : mm) : Option (mm) :=
  gi a1 5 <|
  gi a2 5 <|
  nm (sI M 97 0 (Int32.toNatClampNeg a2) (M.1 97 0 (Int32.toNatClampNeg a1))) fun M1 =>
  bd (lp (b_X12_laysHeard_1 F a1 a2) F ((0 : Int32), M1))
    (fun M6 =>
      some M6)
def b_X12_oathsOf_1c (F : Nat) (a1 : Int32) (M : mm) (x1 : Int32) (x2 : Int32) : Option ((Int32 × Int32) ⊕ (Int32)) :=
  gi (1 : Int32) 12 <|
  if (M.1 64 0 (Int32.toNatClampNeg (1 : Int32))) ≤ x2 then
    some (.inr x1)
  else
    gi x2 20 <|
    bd (
      if (M.1 71 0 (Int32.toNatClampNeg x2)) = a1 then
        some ((1 : Int32) <<< (x2 &&& 31))
      else
        some (0 : Int32)
    ) (fun x3 =>
        nm (x1 ||| x3) fun x4 =>
        some (.inl (x4, (x2 + (1 : Int32)))))
def b_X12_oathsOf_1 (F : Nat) (a1 : Int32) (M : mm) : (Int32 × Int32) → Option ((Int32 × Int32) ⊕ (Int32)) := fun z => b_X12_oathsOf_1c F a1 M z.1 z.2
def m_X12_oathsOf (F : Nat) (a1 : Int32) (M : mm) : Option (Int32 × mm) :=
  bd (lp (b_X12_oathsOf_1 F a1 M) F ((0 : Int32), (0 : Int32)))
    (fun x5 =>
      some (x5, M))
def m_X12_strengthOf (F : Nat) (a1 : Int32) (a2 : Int32) (M : mm) : Option (Int32 × mm) :=
  if ((a2 >>> (a1 &&& 31)) &&& (1 : Int32)) = (1 : Int32) then
    some ((0 : Int32), M)
  else
    gi a1 20 <|
    cl (m_X12_oathsOf F (M.1 71 0 (Int32.toNatClampNeg a1)) M) fun x2 M1 =>
    bd (
      if ((x2 &&& (a2 ^^^ (-1 : Int32))) &&& (((1 : Int32) <<< (a1 &&& 31)) ^^^ (-1 : Int32))) = (0 : Int32) then
        some (1 : Int32)
      else
        some (0 : Int32)
    ) (fun x3 =>
        gi a1 20 <|
        nm (M1.1 72 0 (Int32.toNatClampNeg a1)) fun x4 =>
        gi (0 : Int32) 2 <|
        gi (0 : Int32) 2 <|
        bd (
          if (M1.1 80 0 (Int32.toNatClampNeg (0 : Int32))) ≤ (M1.1 79 0 (Int32.toNatClampNeg (0 : Int32))) then
            gi a1 20 <|
            if (M1.1 70 0 (Int32.toNatClampNeg a1)) = (1 : Int32) then
              gi (0 : Int32) 4 <|
              nm (x4 + (M1.1 100 0 (Int32.toNatClampNeg (0 : Int32)))) fun x6 =>
              some (x6, M1)
            else
              gi a1 20 <|
              if (M1.1 70 0 (Int32.toNatClampNeg a1)) = (3 : Int32) then
                if x3 = (0 : Int32) then
                  some (x4, M1)
                else
                  nm (x4 * (2 : Int32)) fun x5 =>
                  some (x5, M1)
              else
                some (x4, M1)
          else
            gi a1 20 <|
            gi (1 : Int32) 20 <|
            nm (sI M1 93 0 (Int32.toNatClampNeg (1 : Int32)) (M1.1 72 0 (Int32.toNatClampNeg a1))) fun M7 =>
            gi (0 : Int32) 4 <|
            gi (2 : Int32) 20 <|
            nm (sI M7 93 0 (Int32.toNatClampNeg (2 : Int32)) (M7.1 100 0 (Int32.toNatClampNeg (0 : Int32)))) fun M8 =>
            gi a1 20 <|
            gi (3 : Int32) 20 <|
            nm (sI M8 93 0 (Int32.toNatClampNeg (3 : Int32)) (M8.1 70 0 (Int32.toNatClampNeg a1))) fun M9 =>
            bd (
              if x3 = (0 : Int32) then
                some (0 : Int32)
              else
                some (1 : Int32)
            ) (fun x10 =>
                gi (4 : Int32) 20 <|
                nm (sI M9 93 0 (Int32.toNatClampNeg (4 : Int32)) x10) fun M11 =>
                cl (m_X12_worked F (0 : Int32) M11) fun x13 M12 =>
                some (x13, M12))
        ) (fun z => match z with
            | (x14, M15) =>
              cl (m_X12_between F x14 (0 : Int32) (999 : Int32) M15) fun x17 M16 =>
              gi (2 : Int32) 4 <|
              bd (
                if (((M16.1 100 0 (Int32.toNatClampNeg (2 : Int32))) >>> (a1 &&& 31)) &&& (1 : Int32)) = (1 : Int32) then
                  gi (3 : Int32) 12 <|
                  nm ((x17 * (M16.1 64 0 (Int32.toNatClampNeg (3 : Int32)))) / (10 : Int32)) fun x18 =>
                  some x18
                else
                  some x17
              ) (fun x19 =>
                  gi a1 20 <|
                  nm (M16.1 73 0 (Int32.toNatClampNeg a1)) fun x20 =>
                  if (0 : Int32) ≤ x20 then
                    if ((a2 >>> (x20 &&& 31)) &&& (1 : Int32)) = (1 : Int32) then
                      some ((0 : Int32), M16)
                    else
                      some ((x19 + (5 : Int32)), M16)
                  else
                    some (x19, M16))))
def b_X12_laysStrengths_2c (F : Nat) (x1 : Int32) (x3 : Int32) : Option ((Int32) ⊕ (Int32)) :=
  if ((x1 >>> (x3 &&& 31)) &&& (1 : Int32)) = (0 : Int32) then
    some (.inl (x3 + (1 : Int32)))
  else
    some (.inr x3)
def b_X12_laysStrengths_2 (F : Nat) (x1 : Int32) : (Int32) → Option ((Int32) ⊕ (Int32)) := fun z => b_X12_laysStrengths_2c F x1 z
def b_X12_laysStrengths_1c (F : Nat) (a1 : Int32) (x1 : Int32) (M2 : mm) : Option ((Int32 × mm) ⊕ (mm)) :=
  gi (1 : Int32) 12 <|
  if ((1 : Int32) <<< ((M2.1 64 0 (Int32.toNatClampNeg (1 : Int32))) &&& 31)) ≤ x1 then
    some (.inr M2)
  else
    bd (lp (b_X12_laysStrengths_2 F x1) F (0 : Int32))
      (fun x4 =>
        gi (x1 &&& (x1 - (1 : Int32))) 1024 <|
        bd (
          if x1 = ((1 : Int32) <<< (x4 &&& 31)) then
            cl (m_X12_strengthOf F x4 a1 M2) fun x6 M5 =>
            some (x6, M5)
          else
            gi ((1 : Int32) <<< (x4 &&& 31)) 1024 <|
            some ((M2.1 105 0 (Int32.toNatClampNeg ((1 : Int32) <<< (x4 &&& 31)))), M2)
        ) (fun z => match z with
            | (x7, M8) =>
              gi x1 1024 <|
              nm (sI M8 105 0 (Int32.toNatClampNeg x1) ((M2.1 105 0 (Int32.toNatClampNeg (x1 &&& (x1 - (1 : Int32))))) + x7)) fun M9 =>
              some (.inl ((x1 + (1 : Int32)), M9))))
def b_X12_laysStrengths_1 (F : Nat) (a1 : Int32) : (Int32 × mm) → Option ((Int32 × mm) ⊕ (mm)) := fun z => b_X12_laysStrengths_1c F a1 z.1 z.2
def m_X12_laysStrengths (F : Nat) (a1 : Int32) (M : mm) : Option (mm) :=
  bd (lp (b_X12_laysStrengths_1 F a1) F ((1 : Int32), M))
    (fun M10 =>
      some M10)
def b_X12_laysRests_2c (F : Nat) (a1 : Int32) (x1 : Int32) (x4 : Int32) (M5 : mm) : Option ((Int32 × mm) ⊕ (mm)) :=
  if x1 ≤ x4 then
    some (.inr M5)
  else
    gi x1 22 <|
    bd (
      if ((((M5.1 78 0 (Int32.toNatClampNeg x1)) &&& a1) >>> (x4 &&& 31)) &&& (1 : Int32)) = (1 : Int32) then
        gi x1 11 <|
        gi x4 11 <|
        gi x1 11 <|
        nm (sI M5 106 0 (Int32.toNatClampNeg x1) ((M5.1 106 0 (Int32.toNatClampNeg x1)) ||| (M5.1 106 0 (Int32.toNatClampNeg x4)))) fun M6 =>
        some M6
      else
        some M5
    ) (fun M7 =>
        some (.inl ((x4 + (1 : Int32)), M7)))
def b_X12_laysRests_2 (F : Nat) (a1 : Int32) (x1 : Int32) : (Int32 × mm) → Option ((Int32 × mm) ⊕ (mm)) := fun z => b_X12_laysRests_2c F a1 x1 z.1 z.2
def b_X12_laysRests_1c (F : Nat) (a1 : Int32) (x1 : Int32) (M2 : mm) : Option ((Int32 × mm) ⊕ (mm)) :=
  if (11 : Int32) ≤ x1 then
    some (.inr M2)
  else
    gi x1 22 <|
    gi x1 11 <|
    nm (sI M2 106 0 (Int32.toNatClampNeg x1) (M2.1 77 0 (Int32.toNatClampNeg x1))) fun M3 =>
    bd (lp (b_X12_laysRests_2 F a1 x1) F ((0 : Int32), M3))
      (fun M8 =>
        some (.inl ((x1 + (1 : Int32)), M8)))
def b_X12_laysRests_1 (F : Nat) (a1 : Int32) : (Int32 × mm) → Option ((Int32 × mm) ⊕ (mm)) := fun z => b_X12_laysRests_1c F a1 z.1 z.2
def m_X12_laysRests (F : Nat) (a1 : Int32) (M : mm) : Option (mm) :=
  bd (lp (b_X12_laysRests_1 F a1) F ((0 : Int32), M))
    (fun M9 =>
      some M9)
def b_X12_stand_2c (F : Nat) (M1 : mm) (x3 : Int32) (x4 : Int32) (x5 : Int32) (x6 : Int32) : Option ((Int32 × Int32 × Int32 × Int32) ⊕ (Int32 × Int32)) :=
  if x6 ≤ (0 : Int32) then
    some (.inr (x4, x5))
  else
    bd (
      if (x6 &&& (1 : Int32)) = (1 : Int32) then
        gi x3 22 <|
        nm (x4 + (M1.1 75 0 (Int32.toNatClampNeg x3))) fun x7 =>
        gi x3 11 <|
        nm (x5 ||| (M1.1 106 0 (Int32.toNatClampNeg x3))) fun x8 =>
        some (x7, x8)
      else
        some (x4, x5)
    ) (fun z => match z with
        | (x9, x10) =>
          nm (x6 >>> ((1 : Int32) &&& 31)) fun x11 =>
          some (.inl ((x3 + (1 : Int32)), x9, x10, x11)))
def b_X12_stand_2 (F : Nat) (M1 : mm) : (Int32 × Int32 × Int32 × Int32) → Option ((Int32 × Int32 × Int32 × Int32) ⊕ (Int32 × Int32)) := fun z => b_X12_stand_2c F M1 z.1 z.2.1 z.2.2.1 z.2.2.2
def b_X12_stand_1c (F : Nat) (a1 : Int32) (M1 : mm) (x2 : Int32) : Option ((Int32) ⊕ ((Unit) ⊕ (Unit))) :=
  if x2 ≤ (0 : Int32) then
    some (.inr (.inr ()))
  else
    bd (lp (b_X12_stand_2 F M1) F ((0 : Int32), (0 : Int32), (0 : Int32), x2))
      (fun z => match z with
        | (x12, x13) =>
          gi x13 1024 <|
          if x12 ≤ (M1.1 105 0 (Int32.toNatClampNeg x13)) then
            nm ((x2 - (1 : Int32)) &&& a1) fun x14 =>
            some (.inl x14)
          else
            some (.inr (.inl ())))
def b_X12_stand_1 (F : Nat) (a1 : Int32) (M1 : mm) : (Int32) → Option ((Int32) ⊕ ((Unit) ⊕ (Unit))) := fun z => b_X12_stand_1c F a1 M1 z
def m_X12_stand (F : Nat) (a1 : Int32) (M : mm) : Option (Bool × mm) :=
  cv (m_X12_laysRests F a1 M) fun M1 =>
  bd (lp (b_X12_stand_1 F a1 M1) F a1)
    (Sum.elim
      (fun z => match z with
        | () =>
          some (false, M1))
      (fun z => match z with
        | () =>
          some (true, M1)))
def b_X12_fallen_2c (F : Nat) (x2 : Int32) (x6 : Int32) : Option ((Int32) ⊕ (Int32)) :=
  if ((x2 >>> (x6 &&& 31)) &&& (1 : Int32)) = (0 : Int32) then
    some (.inl (x6 + (-1 : Int32)))
  else
    some (.inr x6)
def b_X12_fallen_2 (F : Nat) (x2 : Int32) : (Int32) → Option ((Int32) ⊕ (Int32)) := fun z => b_X12_fallen_2c F x2 z
def b_X12_fallen_1c (F : Nat) (x2 : Int32) (M3 : mm) : Option ((Int32 × mm) ⊕ (Int32 × mm)) :=
  cb (m_X12_stand F x2 M3) fun b5 M4 =>
  if b5 = true then
    some (.inr (x2, M4))
  else
    bd (lp (b_X12_fallen_2 F x2) F (10 : Int32))
      (fun x7 =>
        nm (x2 &&& (((1 : Int32) <<< (x7 &&& 31)) ^^^ (-1 : Int32))) fun x8 =>
        some (.inl (x8, M4)))
def b_X12_fallen_1 (F : Nat) : (Int32 × mm) → Option ((Int32 × mm) ⊕ (Int32 × mm)) := fun z => b_X12_fallen_1c F z.1 z.2
def m_X12_fallen (F : Nat) (a1 : Int32) (a2 : Int32) (M : mm) : Option (Int32 × mm) :=
  cv (m_X12_laysStrengths F a2 M) fun M1 =>
  bd (lp (b_X12_fallen_1 F) F (a1, M1))
    (fun z => match z with
      | (x9, M10) =>
        some (x9, M10))
def m_X12_falls (F : Nat) (M : mm) : Option (Int32 × mm) :=
  gi (3 : Int32) 4 <|
  nm (M.1 100 0 (Int32.toNatClampNeg (3 : Int32))) fun x1 =>
  gi (1 : Int32) 4 <|
  cl (m_X12_fallen F x1 (M.1 100 0 (Int32.toNatClampNeg (1 : Int32))) M) fun x3 M2 =>
  gi (3 : Int32) 4 <|
  nm (sI M2 100 0 (Int32.toNatClampNeg (3 : Int32)) x3) fun M4 =>
  gi (3 : Int32) 4 <|
  some ((x1 &&& ((M4.1 100 0 (Int32.toNatClampNeg (3 : Int32))) ^^^ (-1 : Int32))), M4)
def m_X12_fresh (F : Nat) (M : mm) : Option (mm) :=
  gi (0 : Int32) 4 <|
  nm (sI M 100 0 (Int32.toNatClampNeg (0 : Int32)) (0 : Int32)) fun M1 =>
  gi (1 : Int32) 4 <|
  nm (sI M1 100 0 (Int32.toNatClampNeg (1 : Int32)) (0 : Int32)) fun M2 =>
  gi (2 : Int32) 4 <|
  nm (sI M2 100 0 (Int32.toNatClampNeg (2 : Int32)) (0 : Int32)) fun M3 =>
  gi (2 : Int32) 12 <|
  gi (3 : Int32) 4 <|
  nm (sI M3 100 0 (Int32.toNatClampNeg (3 : Int32)) (((1 : Int32) <<< ((M3.1 64 0 (Int32.toNatClampNeg (2 : Int32))) &&& 31)) - (1 : Int32))) fun M4 =>
  cl (m_X12_falls F M4) fun x6 M5 =>
  some M5
def b_X12_city_1c (F : Nat) (x9 : Int32) (M10 : mm) : Option ((Int32 × mm) ⊕ (mm)) :=
  if (4 : Int32) ≤ x9 then
    some (.inr M10)
  else
    gi x9 4 <|
    nm (sI M10 104 0 (Int32.toNatClampNeg x9) (vp_nar .boolean (0 : Int32))) fun M11 =>
    some (.inl ((x9 + (1 : Int32)), M11))
def b_X12_city_1 (F : Nat) : (Int32 × mm) → Option ((Int32 × mm) ⊕ (mm)) := fun z => b_X12_city_1c F z.1 z.2
def m_X12_city (F : Nat) (M : mm) : Option (Int32 × mm) :=
  nm (sI M 13 0 0 (0 : Int32)) fun M1 =>
  cb (m_X12_readsAll F M1) fun b3 M2 =>
  if b3 = true then
    cv (m_X12_lays F M2) fun M4 =>
    cv (m_X12_fresh F M4) fun M5 =>
    gi (0 : Int32) 6 <|
    nm (sI M5 94 0 (Int32.toNatClampNeg (0 : Int32)) (0 : Int32)) fun M6 =>
    gi (0 : Int32) 5 <|
    nm (sI M6 97 0 (Int32.toNatClampNeg (0 : Int32)) (0 : Int32)) fun M7 =>
    nm (sI M7 13 0 54 (0 : Int32)) fun M8 =>
    bd (lp (b_X12_city_1 F) F ((0 : Int32), M8))
      (fun M12 =>
        some ((0 : Int32), M12))
  else
    some ((M2.1 13 0 9), M2)
def b_X12_life_1c (F : Nat) (M4 : mm) : Option ((mm) ⊕ ((mm) ⊕ (mm))) :=
  if (M4.1 13 0 6) = (0 : Int32) then
    some (.inr (.inr M4))
  else
    cb (m_X12_readsLine F M4) fun b6 M5 =>
    if b6 = true then
      some (.inl M5)
    else
      some (.inr (.inl M5))
def b_X12_life_1 (F : Nat) : (mm) → Option ((mm) ⊕ ((mm) ⊕ (mm))) := fun z => b_X12_life_1c F z
def m_X12_life (F : Nat) (M : mm) : Option (Int32 × mm) :=
  nm (sI M 13 0 0 (0 : Int32)) fun M1 =>
  gi (5 : Int32) 6 <|
  nm (sI M1 94 0 (Int32.toNatClampNeg (5 : Int32)) (0 : Int32)) fun M2 =>
  cv (m_X12_starts F M2) fun M3 =>
  bd (lp (b_X12_life_1 F) F M3)
    (Sum.elim
      (fun M7 =>
        some ((M7.1 13 0 9), M7))
      (fun M8 =>
        cv (m_X12_laysLines F (5 : Int32) (0 : Int32) M8) fun M9 =>
        some ((0 : Int32), M9)))
def m_X12_isPerson (F : Nat) (a1 : Int32) (M : mm) : Option (Bool × mm) :=
  if a1 < (0 : Int32) then
    some (false, M)
  else
    gi (0 : Int32) 12 <|
    if (M.1 64 0 (Int32.toNatClampNeg (0 : Int32))) ≤ a1 then
      some (false, M)
    else
      some (true, M)
def m_X12_isOath (F : Nat) (a1 : Int32) (M : mm) : Option (Bool × mm) :=
  if a1 < (0 : Int32) then
    some (false, M)
  else
    gi (1 : Int32) 12 <|
    if (M.1 64 0 (Int32.toNatClampNeg (1 : Int32))) ≤ a1 then
      some (false, M)
    else
      some (true, M)
def m_X12_isStone (F : Nat) (a1 : Int32) (M : mm) : Option (Bool × mm) :=
  if a1 < (0 : Int32) then
    some (false, M)
  else
    gi (2 : Int32) 12 <|
    if (M.1 64 0 (Int32.toNatClampNeg (2 : Int32))) ≤ a1 then
      some (false, M)
    else
      some (true, M)
def m_X12_person (F : Nat) (a1 : Int32) (a2 : Int32) (M : mm) : Option (Int32 × mm) :=
  nm (sI M 13 0 0 (0 : Int32)) fun M1 =>
  cb (m_X12_isPerson F a1 M1) fun b3 M2 =>
  if b3 = true then
    cb (m_X12_within F a2 (0 : Int32) (3 : Int32) M2) fun b5 M4 =>
    if b5 = true then
      if (2 : Int32) ≤ a2 then
        if a2 = (2 : Int32) then
          cl (m_X12_oathsOf F a1 M4) fun x9 M8 =>
          some (x9, M8)
        else
          cl (m_X12_oathsOf F a1 M4) fun x7 M6 =>
          gi (1 : Int32) 4 <|
          some ((x7 &&& ((M6.1 100 0 (Int32.toNatClampNeg (1 : Int32))) ^^^ (-1 : Int32))), M6)
      else if a2 = (0 : Int32) then
        gi a1 12 <|
        some ((M4.1 68 0 (Int32.toNatClampNeg a1)), M4)
      else
        gi a1 12 <|
        some ((M4.1 69 0 (Int32.toNatClampNeg a1)), M4)
    else
      some ((-1 : Int32), M4)
  else
    some ((-1 : Int32), M2)
def m_X12_oath (F : Nat) (a1 : Int32) (a2 : Int32) (M : mm) : Option (Int32 × mm) :=
  nm (sI M 13 0 0 (0 : Int32)) fun M1 =>
  cb (m_X12_isOath F a1 M1) fun b3 M2 =>
  if b3 = true then
    cb (m_X12_within F a2 (0 : Int32) (7 : Int32) M2) fun b5 M4 =>
    if b5 = true then
      if (3 : Int32) ≤ a2 then
        if (6 : Int32) ≤ a2 then
          if a2 = (6 : Int32) then
            gi a1 20 <|
            some ((M4.1 73 0 (Int32.toNatClampNeg a1)), M4)
          else
            gi a1 20 <|
            some ((M4.1 74 0 (Int32.toNatClampNeg a1)), M4)
        else if a2 = (3 : Int32) then
          gi (1 : Int32) 4 <|
          cl (m_X12_strengthOf F a1 (M4.1 100 0 (Int32.toNatClampNeg (1 : Int32))) M4) fun x7 M6 =>
          some (x7, M6)
        else
          gi (a2 - (3 : Int32)) 4 <|
          some ((((M4.1 100 0 (Int32.toNatClampNeg (a2 - (3 : Int32)))) >>> (a1 &&& 31)) &&& (1 : Int32)), M4)
      else if a2 = (0 : Int32) then
        gi a1 20 <|
        some ((M4.1 70 0 (Int32.toNatClampNeg a1)), M4)
      else if a2 = (1 : Int32) then
        gi a1 20 <|
        some ((M4.1 71 0 (Int32.toNatClampNeg a1)), M4)
      else
        gi a1 20 <|
        some ((M4.1 72 0 (Int32.toNatClampNeg a1)), M4)
    else
      some ((-1 : Int32), M4)
  else
    some ((-1 : Int32), M2)
def m_X12_stone (F : Nat) (a1 : Int32) (a2 : Int32) (M : mm) : Option (Int32 × mm) :=
  nm (sI M 13 0 0 (0 : Int32)) fun M1 =>
  cb (m_X12_isStone F a1 M1) fun b3 M2 =>
  if b3 = true then
    cb (m_X12_within F a2 (0 : Int32) (4 : Int32) M2) fun b5 M4 =>
    if b5 = true then
      if (3 : Int32) ≤ a2 then
        if a2 = (4 : Int32) then
          gi a1 22 <|
          some ((M4.1 78 0 (Int32.toNatClampNeg a1)), M4)
        else
          gi (3 : Int32) 4 <|
          cv (m_X12_laysRests F (M4.1 100 0 (Int32.toNatClampNeg (3 : Int32))) M4) fun M6 =>
          gi a1 11 <|
          some ((M6.1 106 0 (Int32.toNatClampNeg a1)), M6)
      else if a2 = (0 : Int32) then
        gi a1 22 <|
        some ((M4.1 75 0 (Int32.toNatClampNeg a1)), M4)
      else if a2 = (1 : Int32) then
        gi a1 20 <|
        some ((M4.1 76 0 (Int32.toNatClampNeg a1)), M4)
      else
        gi (3 : Int32) 4 <|
        some ((((M4.1 100 0 (Int32.toNatClampNeg (3 : Int32))) >>> (a1 &&& 31)) &&& (1 : Int32)), M4)
    else
      some ((-1 : Int32), M4)
  else
    some ((-1 : Int32), M2)
def b_X12_copies_100_103_1c (F : Nat) (a2 : Int32) (a4 : Int32) (x1 : Int32) (M2 : mm) : Option ((Int32 × mm) ⊕ (mm)) :=
  if (4 : Int32) ≤ x1 then
    some (.inr M2)
  else
    gi (a2 + x1) 4 <|
    gi (a4 + x1) 64 <|
    nm (sI M2 103 0 (Int32.toNatClampNeg (a4 + x1)) (M2.1 100 0 (Int32.toNatClampNeg (a2 + x1)))) fun M3 =>
    some (.inl ((x1 + (1 : Int32)), M3))
def b_X12_copies_100_103_1 (F : Nat) (a2 : Int32) (a4 : Int32) : (Int32 × mm) → Option ((Int32 × mm) ⊕ (mm)) := fun z => b_X12_copies_100_103_1c F a2 a4 z.1 z.2
def m_X12_copies_100_103 (F : Nat) (a2 : Int32) (a4 : Int32) (M : mm) : Option (mm) :=
  bd (lp (b_X12_copies_100_103_1 F a2 a4) F ((0 : Int32), M))
    (fun M4 =>
      some M4)
def b_X12_keeps_1c (F : Nat) (x1 : Int32) (M2 : mm) : Option ((Int32 × mm) ⊕ (mm)) :=
  if (60 : Int32) ≤ x1 then
    some (.inr M2)
  else
    gi (x1 + (4 : Int32)) 64 <|
    gi x1 64 <|
    nm (sI M2 103 0 (Int32.toNatClampNeg x1) (M2.1 103 0 (Int32.toNatClampNeg (x1 + (4 : Int32))))) fun M3 =>
    some (.inl ((x1 + (1 : Int32)), M3))
def b_X12_keeps_1 (F : Nat) : (Int32 × mm) → Option ((Int32 × mm) ⊕ (mm)) := fun z => b_X12_keeps_1c F z.1 z.2
def m_X12_keeps (F : Nat) (M : mm) : Option (mm) :=
  bd (
    if (M.1 13 0 54) = (16 : Int32) then
      bd (lp (b_X12_keeps_1 F) F ((0 : Int32), M))
        (fun M4 =>
          nm (sI M4 13 0 54 ((M4.1 13 0 54) - (1 : Int32))) fun M5 =>
          some M5)
    else
      some M
  ) (fun M6 =>
      cv (m_X12_copies_100_103 F (0 : Int32) ((4 : Int32) * (M6.1 13 0 54)) M6) fun M7 =>
      nm (sI M7 13 0 54 ((M7.1 13 0 54) + (1 : Int32))) fun M8 =>
      some M8)
def m_X12_canBreak (F : Nat) (a1 : Int32) (M : mm) : Option (Bool × mm) :=
  gi a1 20 <|
  if (M.1 70 0 (Int32.toNatClampNeg a1)) = (2 : Int32) then
    some (false, M)
  else
    gi (1 : Int32) 4 <|
    if (((M.1 100 0 (Int32.toNatClampNeg (1 : Int32))) >>> (a1 &&& 31)) &&& (1 : Int32)) = (0 : Int32) then
      some (true, M)
    else
      some (false, M)
def m_X12_canRaise (F : Nat) (a1 : Int32) (M : mm) : Option (Bool × mm) :=
  gi (3 : Int32) 4 <|
  if (((M.1 100 0 (Int32.toNatClampNeg (3 : Int32))) >>> (a1 &&& 31)) &&& (1 : Int32)) = (1 : Int32) then
    some (false, M)
  else
    gi (1 : Int32) 4 <|
    cv (m_X12_laysStrengths F (M.1 100 0 (Int32.toNatClampNeg (1 : Int32))) M) fun M1 =>
    gi (3 : Int32) 4 <|
    cb (m_X12_stand F ((M1.1 100 0 (Int32.toNatClampNeg (3 : Int32))) ||| ((1 : Int32) <<< (a1 &&& 31))) M1) fun b3 M2 =>
    some (b3, M2)
def m_X12_forgives (F : Nat) (a1 : Int32) (M : mm) : Option (mm) :=
  gi (1 : Int32) 4 <|
  gi (1 : Int32) 4 <|
  nm (sI M 100 0 (Int32.toNatClampNeg (1 : Int32)) ((M.1 100 0 (Int32.toNatClampNeg (1 : Int32))) &&& (((1 : Int32) <<< (a1 &&& 31)) ^^^ (-1 : Int32)))) fun M1 =>
  gi (2 : Int32) 4 <|
  gi (2 : Int32) 4 <|
  nm (sI M1 100 0 (Int32.toNatClampNeg (2 : Int32)) ((M1.1 100 0 (Int32.toNatClampNeg (2 : Int32))) ||| ((1 : Int32) <<< (a1 &&& 31)))) fun M2 =>
  some M2
def m_X12_breaks (F : Nat) (a1 : Int32) (M : mm) : Option (Int32 × mm) :=
  nm (sI M 13 0 0 (0 : Int32)) fun M1 =>
  cb (m_X12_isOath F a1 M1) fun b3 M2 =>
  if b3 = true then
    cb (m_X12_canBreak F a1 M2) fun b5 M4 =>
    if b5 = true then
      cv (m_X12_keeps F M4) fun M6 =>
      gi (1 : Int32) 4 <|
      gi (1 : Int32) 4 <|
      nm (sI M6 100 0 (Int32.toNatClampNeg (1 : Int32)) ((M6.1 100 0 (Int32.toNatClampNeg (1 : Int32))) ||| ((1 : Int32) <<< (a1 &&& 31)))) fun M7 =>
      cl (m_X12_falls F M7) fun x9 M8 =>
      some (x9, M8)
    else
      some ((-1 : Int32), M4)
  else
    some ((-1 : Int32), M2)
def m_X12_forgive (F : Nat) (a1 : Int32) (M : mm) : Option (Bool × mm) :=
  nm (sI M 13 0 0 (0 : Int32)) fun M1 =>
  cb (m_X12_isOath F a1 M1) fun b3 M2 =>
  if b3 = true then
    gi (1 : Int32) 4 <|
    if (((M2.1 100 0 (Int32.toNatClampNeg (1 : Int32))) >>> (a1 &&& 31)) &&& (1 : Int32)) = (0 : Int32) then
      some (false, M2)
    else
      cv (m_X12_keeps F M2) fun M4 =>
      cv (m_X12_forgives F a1 M4) fun M5 =>
      cl (m_X12_falls F M5) fun x7 M6 =>
      some (true, M6)
  else
    some (false, M2)
def m_X12_raise (F : Nat) (a1 : Int32) (M : mm) : Option (Bool × mm) :=
  nm (sI M 13 0 0 (0 : Int32)) fun M1 =>
  cb (m_X12_isStone F a1 M1) fun b3 M2 =>
  if b3 = true then
    cb (m_X12_canRaise F a1 M2) fun b5 M4 =>
    if b5 = true then
      cv (m_X12_keeps F M4) fun M6 =>
      gi (3 : Int32) 4 <|
      gi (3 : Int32) 4 <|
      nm (sI M6 100 0 (Int32.toNatClampNeg (3 : Int32)) ((M6.1 100 0 (Int32.toNatClampNeg (3 : Int32))) ||| ((1 : Int32) <<< (a1 &&& 31)))) fun M7 =>
      some (true, M7)
    else
      some (false, M4)
  else
    some (false, M2)
def m_X12_passes (F : Nat) (M : mm) : Option (Int32 × mm) :=
  gi (0 : Int32) 4 <|
  gi (0 : Int32) 4 <|
  nm (sI M 100 0 (Int32.toNatClampNeg (0 : Int32)) ((M.1 100 0 (Int32.toNatClampNeg (0 : Int32))) + (1 : Int32))) fun M1 =>
  cl (m_X12_falls F M1) fun x3 M2 =>
  some (x3, M2)
def b_X12_years_1c (F : Nat) (a1 : Int32) (x5 : Int32) (x6 : Int32) (M7 : mm) : Option ((Int32 × Int32 × mm) ⊕ (Int32 × mm)) :=
  if a1 ≤ x6 then
    some (.inr (x5, M7))
  else
    cl (m_X12_passes F M7) fun x9 M8 =>
    nm (x5 ||| x9) fun x10 =>
    some (.inl (x10, (x6 + (1 : Int32)), M8))
def b_X12_years_1 (F : Nat) (a1 : Int32) : (Int32 × Int32 × mm) → Option ((Int32 × Int32 × mm) ⊕ (Int32 × mm)) := fun z => b_X12_years_1c F a1 z.1 z.2.1 z.2.2
def m_X12_years (F : Nat) (a1 : Int32) (M : mm) : Option (Int32 × mm) :=
  nm (sI M 13 0 0 (0 : Int32)) fun M1 =>
  cb (m_X12_within F a1 (1 : Int32) (100 : Int32) M1) fun b3 M2 =>
  if b3 = true then
    cv (m_X12_keeps F M2) fun M4 =>
    bd (lp (b_X12_years_1 F a1) F ((0 : Int32), (0 : Int32), M4))
      (fun z => match z with
        | (x11, M12) =>
          some (x11, M12))
  else
    some ((-1 : Int32), M2)
def b_X12_copies_103_100_1c (F : Nat) (a2 : Int32) (a4 : Int32) (x1 : Int32) (M2 : mm) : Option ((Int32 × mm) ⊕ (mm)) :=
  if (4 : Int32) ≤ x1 then
    some (.inr M2)
  else
    gi (a2 + x1) 64 <|
    gi (a4 + x1) 4 <|
    nm (sI M2 100 0 (Int32.toNatClampNeg (a4 + x1)) (M2.1 103 0 (Int32.toNatClampNeg (a2 + x1)))) fun M3 =>
    some (.inl ((x1 + (1 : Int32)), M3))
def b_X12_copies_103_100_1 (F : Nat) (a2 : Int32) (a4 : Int32) : (Int32 × mm) → Option ((Int32 × mm) ⊕ (mm)) := fun z => b_X12_copies_103_100_1c F a2 a4 z.1 z.2
def m_X12_copies_103_100 (F : Nat) (a2 : Int32) (a4 : Int32) (M : mm) : Option (mm) :=
  bd (lp (b_X12_copies_103_100_1 F a2 a4) F ((0 : Int32), M))
    (fun M4 =>
      some M4)
def m_X12_undo (F : Nat) (M : mm) : Option (Bool × mm) :=
  nm (sI M 13 0 0 (0 : Int32)) fun M1 =>
  if (M1.1 13 0 54) = (0 : Int32) then
    some (false, M1)
  else
    nm (sI M1 13 0 54 ((M1.1 13 0 54) - (1 : Int32))) fun M2 =>
    cv (m_X12_copies_103_100 F ((4 : Int32) * (M2.1 13 0 54)) (0 : Int32) M2) fun M3 =>
    some (true, M3)
def m_X12_goes (F : Nat) (a1 : Int32) (M : mm) : Option (Bool × mm) :=
  gi a1 240 <|
  nm (M.1 95 0 (Int32.toNatClampNeg a1)) fun x1 =>
  gi a1 240 <|
  nm (M.1 96 0 (Int32.toNatClampNeg a1)) fun x2 =>
  nm (sI M 13 0 57 (0 : Int32)) fun M3 =>
  if x1 = (3 : Int32) then
    cl (m_X12_passes F M3) fun x17 M16 =>
    nm (sI M16 13 0 57 x17) fun M18 =>
    some (true, M18)
  else
    nm (fun (M8 : mm) =>
      bd (
        if x1 = (0 : Int32) then
          gi (1 : Int32) 4 <|
          gi (1 : Int32) 4 <|
          nm (sI M8 100 0 (Int32.toNatClampNeg (1 : Int32)) ((M8.1 100 0 (Int32.toNatClampNeg (1 : Int32))) ||| ((1 : Int32) <<< (x2 &&& 31)))) fun M11 =>
          some M11
        else if x1 = (1 : Int32) then
          cv (m_X12_forgives F x2 M8) fun M10 =>
          some M10
        else
          gi (3 : Int32) 4 <|
          gi (3 : Int32) 4 <|
          nm (sI M8 100 0 (Int32.toNatClampNeg (3 : Int32)) ((M8.1 100 0 (Int32.toNatClampNeg (3 : Int32))) ||| ((1 : Int32) <<< (x2 &&& 31)))) fun M9 =>
          some M9
      ) (fun M12 =>
          cl (m_X12_falls F M12) fun x14 M13 =>
          nm (sI M13 13 0 57 x14) fun M15 =>
          some (true, M15))) fun j80 =>
    if x1 = (0 : Int32) then
      cb (m_X12_canBreak F x2 M3) fun b7 M6 =>
      if b7 = true then
        j80 M6
      else
        some (false, M6)
    else if x1 = (1 : Int32) then
      gi (1 : Int32) 4 <|
      if (((M3.1 100 0 (Int32.toNatClampNeg (1 : Int32))) >>> (x2 &&& 31)) &&& (1 : Int32)) = (0 : Int32) then
        some (false, M3)
      else
        j80 M3
    else
      cb (m_X12_canRaise F x2 M3) fun b5 M4 =>
      if b5 = true then
        j80 M4
      else
        some (false, M4)
def b_X12_copies_100_101_1c (F : Nat) (a2 : Int32) (a4 : Int32) (x1 : Int32) (M2 : mm) : Option ((Int32 × mm) ⊕ (mm)) :=
  if (4 : Int32) ≤ x1 then
    some (.inr M2)
  else
    gi (a2 + x1) 4 <|
    gi (a4 + x1) 8 <|
    nm (sI M2 101 0 (Int32.toNatClampNeg (a4 + x1)) (M2.1 100 0 (Int32.toNatClampNeg (a2 + x1)))) fun M3 =>
    some (.inl ((x1 + (1 : Int32)), M3))
def b_X12_copies_100_101_1 (F : Nat) (a2 : Int32) (a4 : Int32) : (Int32 × mm) → Option ((Int32 × mm) ⊕ (mm)) := fun z => b_X12_copies_100_101_1c F a2 a4 z.1 z.2
def m_X12_copies_100_101 (F : Nat) (a2 : Int32) (a4 : Int32) (M : mm) : Option (mm) :=
  bd (lp (b_X12_copies_100_101_1 F a2 a4) F ((0 : Int32), M))
    (fun M4 =>
      some M4)
def b_X12_copies_101_100_1c (F : Nat) (a2 : Int32) (a4 : Int32) (x1 : Int32) (M2 : mm) : Option ((Int32 × mm) ⊕ (mm)) :=
  if (4 : Int32) ≤ x1 then
    some (.inr M2)
  else
    gi (a2 + x1) 8 <|
    gi (a4 + x1) 4 <|
    nm (sI M2 100 0 (Int32.toNatClampNeg (a4 + x1)) (M2.1 101 0 (Int32.toNatClampNeg (a2 + x1)))) fun M3 =>
    some (.inl ((x1 + (1 : Int32)), M3))
def b_X12_copies_101_100_1 (F : Nat) (a2 : Int32) (a4 : Int32) : (Int32 × mm) → Option ((Int32 × mm) ⊕ (mm)) := fun z => b_X12_copies_101_100_1c F a2 a4 z.1 z.2
def m_X12_copies_101_100 (F : Nat) (a2 : Int32) (a4 : Int32) (M : mm) : Option (mm) :=
  bd (lp (b_X12_copies_101_100_1 F a2 a4) F ((0 : Int32), M))
    (fun M4 =>
      some M4)
def b_X12_judged_1c (F : Nat) (x6 : Int32) (x7 : Int32) (x8 : Int32) (M9 : mm) : Option ((Int32 × Int32 × Int32 × mm) ⊕ (Int32 × Int32 × mm)) :=
  gi (0 : Int32) 6 <|
  if (M9.1 94 0 (Int32.toNatClampNeg (0 : Int32))) ≤ x8 then
    some (.inr (x6, x7, M9))
  else
    cb (m_X12_goes F x8 M9) fun b11 M10 =>
    bd (
      if b11 = true then
        some x6
      else if (0 : Int32) ≤ x6 then
        some x6
      else
        some x8
    ) (fun x12 =>
        bd (
          if (M10.1 13 0 57) = (0 : Int32) then
            some x7
          else if (0 : Int32) ≤ x7 then
            some x7
          else
            some x8
        ) (fun x13 =>
            some (.inl (x12, x13, (x8 + (1 : Int32)), M10))))
def b_X12_judged_1 (F : Nat) : (Int32 × Int32 × Int32 × mm) → Option ((Int32 × Int32 × Int32 × mm) ⊕ (Int32 × Int32 × mm)) := fun z => b_X12_judged_1c F z.1 z.2.1 z.2.2.1 z.2.2.2
def m_X12_judged (F : Nat) (a1 : Int32) (M : mm) : Option (Int32 × mm) :=
  nm (sI M 13 0 0 (0 : Int32)) fun M1 =>
  cb (m_X12_within F a1 (0 : Int32) (2 : Int32) M1) fun b3 M2 =>
  if b3 = true then
    cv (m_X12_copies_100_101 F (0 : Int32) (0 : Int32) M2) fun M4 =>
    cv (m_X12_fresh F M4) fun M5 =>
    bd (lp (b_X12_judged_1 F) F ((-1 : Int32), (-1 : Int32), (0 : Int32), M5))
      (fun z => match z with
        | (x14, x15, M16) =>
          gi (3 : Int32) 4 <|
          nm (M16.1 100 0 (Int32.toNatClampNeg (3 : Int32))) fun x17 =>
          cv (m_X12_copies_101_100 F (0 : Int32) (0 : Int32) M16) fun M18 =>
          if a1 = (0 : Int32) then
            some (x14, M18)
          else if a1 = (1 : Int32) then
            some (x15, M18)
          else
            some (x17, M18))
  else
    some ((-2 : Int32), M2)
def b_X12_weighed_1c (F : Nat) (a1 : Int32) (M : mm) (x1 : Int32) (x2 : Int32) : Option ((Int32 × Int32) ⊕ (Int32)) :=
  if (11 : Int32) ≤ x2 then
    some (.inr x1)
  else
    bd (
      if ((a1 >>> (x2 &&& 31)) &&& (1 : Int32)) = (1 : Int32) then
        gi x2 22 <|
        some (M.1 75 0 (Int32.toNatClampNeg x2))
      else
        some (0 : Int32)
    ) (fun x3 =>
        nm (x1 + x3) fun x4 =>
        some (.inl (x4, (x2 + (1 : Int32)))))
def b_X12_weighed_1 (F : Nat) (a1 : Int32) (M : mm) : (Int32 × Int32) → Option ((Int32 × Int32) ⊕ (Int32)) := fun z => b_X12_weighed_1c F a1 M z.1 z.2
def m_X12_weighed (F : Nat) (a1 : Int32) (M : mm) : Option (Int32 × mm) :=
  bd (lp (b_X12_weighed_1 F a1 M) F ((0 : Int32), (0 : Int32)))
    (fun x5 =>
      some (x5, M))
def b_X12_bears_2c (F : Nat) (x8 : Int32) (M9 : mm) (x10 : Int32) (x11 : Int32) : Option ((Int32 × Int32) ⊕ (Int32)) :=
  if (10 : Int32) ≤ x11 then
    some (.inr x10)
  else
    bd (
      if ((x8 >>> (x11 &&& 31)) &&& (1 : Int32)) = (1 : Int32) then
        gi x11 11 <|
        some (M9.1 106 0 (Int32.toNatClampNeg x11))
      else
        some (0 : Int32)
    ) (fun x12 =>
        nm (x10 ||| x12) fun x13 =>
        some (.inl (x13, (x11 + (1 : Int32)))))
def b_X12_bears_2 (F : Nat) (x8 : Int32) (M9 : mm) : (Int32 × Int32) → Option ((Int32 × Int32) ⊕ (Int32)) := fun z => b_X12_bears_2c F x8 M9 z.1 z.2
def b_X12_bears_1c (F : Nat) (x5 : Int32) (x7 : Int32) (x8 : Int32) (M9 : mm) : Option ((Int32 × Int32 × mm) ⊕ (Int32 × mm)) :=
  if x8 ≤ (0 : Int32) then
    some (.inr (x7, M9))
  else
    bd (lp (b_X12_bears_2 F x8 M9) F ((0 : Int32), (0 : Int32)))
      (fun x14 =>
        cl (m_X12_weighed F x8 M9) fun x16 M15 =>
        gi x14 1024 <|
        nm (if ((x5 - x16) + (M15.1 105 0 (Int32.toNatClampNeg x14))) < x7 then ((x5 - x16) + (M15.1 105 0 (Int32.toNatClampNeg x14))) else x7) fun x17 =>
        gi (3 : Int32) 4 <|
        nm ((x8 - (1 : Int32)) &&& (M15.1 100 0 (Int32.toNatClampNeg (3 : Int32)))) fun x18 =>
        some (.inl (x17, x18, M15)))
def b_X12_bears_1 (F : Nat) (x5 : Int32) : (Int32 × Int32 × mm) → Option ((Int32 × Int32 × mm) ⊕ (Int32 × mm)) := fun z => b_X12_bears_1c F x5 z.1 z.2.1 z.2.2
def m_X12_bears (F : Nat) (M : mm) : Option (Int32 × mm) :=
  nm (sI M 13 0 0 (0 : Int32)) fun M1 =>
  gi (1 : Int32) 4 <|
  cv (m_X12_laysStrengths F (M1.1 100 0 (Int32.toNatClampNeg (1 : Int32))) M1) fun M2 =>
  gi (3 : Int32) 4 <|
  cv (m_X12_laysRests F (M2.1 100 0 (Int32.toNatClampNeg (3 : Int32))) M2) fun M3 =>
  gi (3 : Int32) 4 <|
  cl (m_X12_weighed F (M3.1 100 0 (Int32.toNatClampNeg (3 : Int32))) M3) fun x5 M4 =>
  gi (3 : Int32) 4 <|
  nm (M4.1 100 0 (Int32.toNatClampNeg (3 : Int32))) fun x6 =>
  bd (lp (b_X12_bears_1 F x5) F (x5, x6, M4))
    (fun z => match z with
      | (x19, M20) =>
        some (x19, M20))
def b_X12_loose_1c (F : Nat) (x1 : Int32) (x2 : Int32) (M3 : mm) : Option ((Int32 × Int32 × mm) ⊕ (Int32 × mm)) :=
  gi (1 : Int32) 12 <|
  if (M3.1 64 0 (Int32.toNatClampNeg (1 : Int32))) ≤ x2 then
    some (.inr (x1, M3))
  else
    cb (m_X12_canBreak F x2 M3) fun b5 M4 =>
    bd (
      if b5 = true then
        some ((1 : Int32) <<< (x2 &&& 31))
      else
        some (0 : Int32)
    ) (fun x6 =>
        nm (x1 ||| x6) fun x7 =>
        some (.inl (x7, (x2 + (1 : Int32)), M4)))
def b_X12_loose_1 (F : Nat) : (Int32 × Int32 × mm) → Option ((Int32 × Int32 × mm) ⊕ (Int32 × mm)) := fun z => b_X12_loose_1c F z.1 z.2.1 z.2.2
def m_X12_loose (F : Nat) (M : mm) : Option (Int32 × mm) :=
  bd (lp (b_X12_loose_1 F) F ((0 : Int32), (0 : Int32), M))
    (fun z => match z with
      | (x8, M9) =>
        some (x8, M9))
def m_X12_upIf (F : Nat) (a1 : Int32) (M : mm) : Option (Int32 × mm) :=
  gi (3 : Int32) 4 <|
  gi (1 : Int32) 4 <|
  cl (m_X12_loose F M) fun x2 M1 =>
  cl (m_X12_fallen F (M.1 100 0 (Int32.toNatClampNeg (3 : Int32))) ((M.1 100 0 (Int32.toNatClampNeg (1 : Int32))) ||| (a1 &&& x2)) M1) fun x4 M3 =>
  some (x4, M3)
def m_X12_allOaths (F : Nat) (M : mm) : Option (Int32 × mm) :=
  gi (1 : Int32) 12 <|
  some ((((1 : Int32) <<< ((M.1 64 0 (Int32.toNatClampNeg (1 : Int32))) &&& 31)) - (1 : Int32)), M)
def m_X12_stands (F : Nat) (a1 : Int32) (M : mm) : Option (Int32 × mm) :=
  nm (sI M 13 0 0 (0 : Int32)) fun M1 =>
  if a1 < (0 : Int32) then
    some ((-1 : Int32), M1)
  else
    cl (m_X12_allOaths F M1) fun x3 M2 =>
    if a1 ≤ x3 then
      cl (m_X12_upIf F a1 M2) fun x5 M4 =>
      some (x5, M4)
    else
      some ((-1 : Int32), M2)
def b_X12_weakest_1c (F : Nat) (a1 : Int32) (x4 : Int32) (x5 : Int32) (M6 : mm) : Option ((Int32 × Int32 × mm) ⊕ (Int32 × mm)) :=
  cl (m_X12_allOaths F M6) fun x8 M7 =>
  if x8 < x5 then
    some (.inr (x4, M7))
  else
    gi (1 : Int32) 4 <|
    bd (
      if (x5 &&& (M7.1 100 0 (Int32.toNatClampNeg (1 : Int32)))) = (0 : Int32) then
        nm (fun (M13 : mm) =>
          cl (m_X12_upIf F x5 M13) fun x15 M14 =>
          if ((x15 >>> (a1 &&& 31)) &&& (1 : Int32)) = (0 : Int32) then
            some (x5, M14)
          else
            some (x4, M14)) fun j69 =>
        if x4 < (0 : Int32) then
          j69 M7
        else
          cl (m_X12_bits F x5 M7) fun x10 M9 =>
          cl (m_X12_bits F x4 M9) fun x12 M11 =>
          if x10 < x12 then
            j69 M11
          else
            some (x4, M11)
      else
        some (x4, M7)
    ) (fun z => match z with
        | (x16, M17) =>
          some (.inl (x16, (x5 + (1 : Int32)), M17)))
def b_X12_weakest_1 (F : Nat) (a1 : Int32) : (Int32 × Int32 × mm) → Option ((Int32 × Int32 × mm) ⊕ (Int32 × mm)) := fun z => b_X12_weakest_1c F a1 z.1 z.2.1 z.2.2
def m_X12_weakest (F : Nat) (a1 : Int32) (M : mm) : Option (Int32 × mm) :=
  nm (sI M 13 0 0 (0 : Int32)) fun M1 =>
  cb (m_X12_isStone F a1 M1) fun b3 M2 =>
  if b3 = true then
    gi (3 : Int32) 4 <|
    if (((M2.1 100 0 (Int32.toNatClampNeg (3 : Int32))) >>> (a1 &&& 31)) &&& (1 : Int32)) = (0 : Int32) then
      some ((-1 : Int32), M2)
    else
      bd (lp (b_X12_weakest_1 F a1) F ((-1 : Int32), (0 : Int32), M2))
        (fun z => match z with
          | (x18, M19) =>
            some (x18, M19))
  else
    some ((-1 : Int32), M2)
def b_X12_sureOf_2c (F : Nat) (x2 : Int32) (x4 : Int32) (x5 : Int32) (x6 : Int32) (M7 : mm) : Option ((Int32 × Int32 × Int32 × mm) ⊕ (Int32 × Int32 × mm)) :=
  if (6 : Int32) ≤ x6 then
    some (.inr (x4, x5, M7))
  else
    bd (
      if ((x2 >>> (x6 &&& 31)) &&& (1 : Int32)) = (1 : Int32) then
        some (1 : Int32)
      else
        some (0 : Int32)
    ) (fun x8 =>
        gi (0 : Int32) 12 <|
        bd (
          if x6 < (M7.1 64 0 (Int32.toNatClampNeg (0 : Int32))) then
            if x8 = (0 : Int32) then
              gi x6 12 <|
              some (M7.1 68 0 (Int32.toNatClampNeg x6))
            else
              gi x6 12 <|
              some ((10 : Int32) - (M7.1 68 0 (Int32.toNatClampNeg x6)))
          else
            some (10 : Int32)
        ) (fun x9 =>
            nm (x4 * x9) fun x10 =>
            bd (
              if x8 = (0 : Int32) then
                some ((0 : Int32), M7)
              else
                cl (m_X12_oathsOf F x6 M7) fun x12 M11 =>
                some (x12, M11)
            ) (fun z => match z with
                | (x13, M14) =>
                  nm (x5 ||| x13) fun x15 =>
                  some (.inl (x10, x15, (x6 + (1 : Int32)), M14)))))
def b_X12_sureOf_2 (F : Nat) (x2 : Int32) : (Int32 × Int32 × Int32 × mm) → Option ((Int32 × Int32 × Int32 × mm) ⊕ (Int32 × Int32 × mm)) := fun z => b_X12_sureOf_2c F x2 z.1 z.2.1 z.2.2.1 z.2.2.2
def b_X12_sureOf_1c (F : Nat) (a1 : Int32) (x1 : Int32) (x2 : Int32) (M3 : mm) : Option ((Int32 × Int32 × mm) ⊕ (Int32 × mm)) :=
  gi (0 : Int32) 12 <|
  if ((1 : Int32) <<< ((M3.1 64 0 (Int32.toNatClampNeg (0 : Int32))) &&& 31)) ≤ x2 then
    some (.inr (x1, M3))
  else
    bd (lp (b_X12_sureOf_2 F x2) F ((1 : Int32), (0 : Int32), (0 : Int32), M3))
      (fun z => match z with
        | (x16, x17, M18) =>
          bd (
            if x16 ≤ (0 : Int32) then
              some (x1, M18)
            else
              cl (m_X12_upIf F x17 M18) fun x20 M19 =>
              if ((x20 >>> (a1 &&& 31)) &&& (1 : Int32)) = (1 : Int32) then
                nm (x1 + x16) fun x21 =>
                some (x21, M19)
              else
                some (x1, M19)
          ) (fun z => match z with
              | (x22, M23) =>
                some (.inl (x22, (x2 + (1 : Int32)), M23))))
def b_X12_sureOf_1 (F : Nat) (a1 : Int32) : (Int32 × Int32 × mm) → Option ((Int32 × Int32 × mm) ⊕ (Int32 × mm)) := fun z => b_X12_sureOf_1c F a1 z.1 z.2.1 z.2.2
def m_X12_sureOf (F : Nat) (a1 : Int32) (M : mm) : Option (Int32 × mm) :=
  bd (lp (b_X12_sureOf_1 F a1) F ((0 : Int32), (0 : Int32), M))
    (fun z => match z with
      | (x24, M25) =>
        some (x24, M25))
def m_X12_sure (F : Nat) (a1 : Int32) (M : mm) : Option (Int32 × mm) :=
  nm (sI M 13 0 0 (0 : Int32)) fun M1 =>
  cb (m_X12_isStone F a1 M1) fun b3 M2 =>
  if b3 = true then
    gi (3 : Int32) 4 <|
    if (((M2.1 100 0 (Int32.toNatClampNeg (3 : Int32))) >>> (a1 &&& 31)) &&& (1 : Int32)) = (1 : Int32) then
      cl (m_X12_sureOf F a1 M2) fun x5 M4 =>
      some (x5, M4)
    else
      some ((-1 : Int32), M2)
  else
    some ((-1 : Int32), M2)
def b_X12_surest_1c (F : Nat) (x6 : Int32) (x11 : Int32) (x12 : Int32) (x13 : Int32) (M14 : mm) : Option ((Int32 × Int32 × Int32 × mm) ⊕ (Int32 × Int32 × mm)) :=
  cl (m_X12_allOaths F M14) fun x16 M15 =>
  if x16 < x13 then
    some (.inr (x11, x12, M15))
  else
    cl (m_X12_bits F x13 M15) fun x18 M17 =>
    bd (
      if x18 ≤ (2 : Int32) then
        gi x6 22 <|
        nm (sI M17 77 0 (Int32.toNatClampNeg x6) x13) fun M19 =>
        gi (1 : Int32) 4 <|
        cv (m_X12_laysStrengths F (M19.1 100 0 (Int32.toNatClampNeg (1 : Int32))) M19) fun M20 =>
        gi (3 : Int32) 4 <|
        cb (m_X12_stand F (M20.1 100 0 (Int32.toNatClampNeg (3 : Int32))) M20) fun b22 M21 =>
        if b22 = true then
          cl (m_X12_sureOf F x6 M21) fun x24 M23 =>
          nm (fun (z : Unit) => match z with
            | () =>
              some (x13, x24, M23)) fun j153 =>
          if x11 < (0 : Int32) then
            j153 ()
          else if x12 < x24 then
            j153 ()
          else
            some (x11, x12, M23)
        else
          some (x11, x12, M21)
      else
        some (x11, x12, M17)
    ) (fun z => match z with
        | (x25, x26, M27) =>
          some (.inl (x25, x26, (x13 + (1 : Int32)), M27)))
def b_X12_surest_1 (F : Nat) (x6 : Int32) : (Int32 × Int32 × Int32 × mm) → Option ((Int32 × Int32 × Int32 × mm) ⊕ (Int32 × Int32 × mm)) := fun z => b_X12_surest_1c F x6 z.1 z.2.1 z.2.2.1 z.2.2.2
def m_X12_surest (F : Nat) (a1 : Int32) (a2 : Int32) (M : mm) : Option (Int32 × mm) :=
  nm (sI M 13 0 0 (0 : Int32)) fun M1 =>
  cb (m_X12_within F a1 (0 : Int32) (99 : Int32) M1) fun b3 M2 =>
  if b3 = true then
    cb (m_X12_within F a2 (0 : Int32) (1 : Int32) M2) fun b5 M4 =>
    if b5 = true then
      gi (2 : Int32) 12 <|
      nm (M4.1 64 0 (Int32.toNatClampNeg (2 : Int32))) fun x6 =>
      gi (3 : Int32) 4 <|
      nm (M4.1 100 0 (Int32.toNatClampNeg (3 : Int32))) fun x7 =>
      gi x6 22 <|
      nm (sI M4 75 0 (Int32.toNatClampNeg x6) a1) fun M8 =>
      gi x6 22 <|
      nm (sI M8 78 0 (Int32.toNatClampNeg x6) (0 : Int32)) fun M9 =>
      gi (3 : Int32) 4 <|
      gi (3 : Int32) 4 <|
      nm (sI M9 100 0 (Int32.toNatClampNeg (3 : Int32)) ((M9.1 100 0 (Int32.toNatClampNeg (3 : Int32))) ||| ((1 : Int32) <<< (x6 &&& 31)))) fun M10 =>
      bd (lp (b_X12_surest_1 F x6) F ((-1 : Int32), (0 : Int32), (1 : Int32), M10))
        (fun z => match z with
          | (x28, x29, M30) =>
            gi (3 : Int32) 4 <|
            nm (sI M30 100 0 (Int32.toNatClampNeg (3 : Int32)) x7) fun M31 =>
            nm (fun (z : Unit) => match z with
              | () =>
                some (x28, M31)) fun j185 =>
            if x28 < (0 : Int32) then
              j185 ()
            else if a2 = (1 : Int32) then
              j185 ()
            else
              some (x29, M31))
    else
      some ((-1 : Int32), M4)
  else
    some ((-1 : Int32), M2)
def b_X12_isClashing_1c (F : Nat) (a1 : Int32) (M : mm) (x1 : Int32) : Option ((Int32) ⊕ ((Unit) ⊕ (Unit))) :=
  gi (1 : Int32) 12 <|
  if (M.1 64 0 (Int32.toNatClampNeg (1 : Int32))) ≤ x1 then
    some (.inr (.inr ()))
  else
    nm (fun (z : Unit) => match z with
      | () =>
        some (.inl (x1 + (1 : Int32)))) fun j35 =>
    if ((a1 >>> (x1 &&& 31)) &&& (1 : Int32)) = (0 : Int32) then
      gi x1 20 <|
      if ((M.1 74 0 (Int32.toNatClampNeg x1)) &&& (a1 ^^^ (-1 : Int32))) = (0 : Int32) then
        j35 ()
      else
        some (.inr (.inl ()))
    else
      j35 ()
def b_X12_isClashing_1 (F : Nat) (a1 : Int32) (M : mm) : (Int32) → Option ((Int32) ⊕ ((Unit) ⊕ (Unit))) := fun z => b_X12_isClashing_1c F a1 M z
def m_X12_isClashing (F : Nat) (a1 : Int32) (M : mm) : Option (Bool × mm) :=
  bd (lp (b_X12_isClashing_1 F a1 M) F (0 : Int32))
    (Sum.elim
      (fun z => match z with
        | () =>
          some (true, M))
      (fun z => match z with
        | () =>
          some (false, M)))
def b_X12_keep_1c (F : Nat) (x3 : Int32) (x4 : Int32) (x5 : Int32) (M6 : mm) : Option ((Int32 × Int32 × mm) ⊕ (Int32 × mm)) :=
  cl (m_X12_allOaths F M6) fun x8 M7 =>
  if x8 < x5 then
    some (.inr (x4, M7))
  else
    bd (
      if (x5 &&& (x3 ^^^ (-1 : Int32))) = (0 : Int32) then
        nm (fun (M13 : mm) =>
          gi (1 : Int32) 4 <|
          cb (m_X12_isClashing F ((M13.1 100 0 (Int32.toNatClampNeg (1 : Int32))) ||| x5) M13) fun b15 M14 =>
          if b15 = true then
            some (x4, M14)
          else
            cl (m_X12_upIf F x5 M14) fun x17 M16 =>
            gi (3 : Int32) 4 <|
            if x17 = (M16.1 100 0 (Int32.toNatClampNeg (3 : Int32))) then
              some (x5, M16)
            else
              some (x4, M16)) fun j45 =>
        if x4 < (0 : Int32) then
          j45 M7
        else
          cl (m_X12_bits F x5 M7) fun x10 M9 =>
          cl (m_X12_bits F x4 M9) fun x12 M11 =>
          if x12 ≤ x10 then
            some (x4, M11)
          else
            j45 M11
      else
        some (x4, M7)
    ) (fun z => match z with
        | (x18, M19) =>
          some (.inl (x18, (x5 + (1 : Int32)), M19)))
def b_X12_keep_1 (F : Nat) (x3 : Int32) : (Int32 × Int32 × mm) → Option ((Int32 × Int32 × mm) ⊕ (Int32 × mm)) := fun z => b_X12_keep_1c F x3 z.1 z.2.1 z.2.2
def m_X12_keep (F : Nat) (M : mm) : Option (Int32 × mm) :=
  nm (sI M 13 0 0 (0 : Int32)) fun M1 =>
  cl (m_X12_loose F M1) fun x3 M2 =>
  bd (lp (b_X12_keep_1 F x3) F ((-1 : Int32), (0 : Int32), M2))
    (fun z => match z with
      | (x20, M21) =>
        some (x20, M21))
def b_X12_raisesAll_1c (F : Nat) (x1 : Int32) (M2 : mm) : Option ((Int32 × mm) ⊕ (mm)) :=
  gi (2 : Int32) 12 <|
  if (M2.1 64 0 (Int32.toNatClampNeg (2 : Int32))) ≤ x1 then
    some (.inr M2)
  else
    cb (m_X12_canRaise F x1 M2) fun b4 M3 =>
    bd (
      if b4 = true then
        gi (3 : Int32) 4 <|
        gi (3 : Int32) 4 <|
        nm (sI M3 100 0 (Int32.toNatClampNeg (3 : Int32)) ((M3.1 100 0 (Int32.toNatClampNeg (3 : Int32))) ||| ((1 : Int32) <<< (x1 &&& 31)))) fun M5 =>
        some M5
      else
        some M3
    ) (fun M6 =>
        some (.inl ((x1 + (1 : Int32)), M6)))
def b_X12_raisesAll_1 (F : Nat) : (Int32 × mm) → Option ((Int32 × mm) ⊕ (mm)) := fun z => b_X12_raisesAll_1c F z.1 z.2
def m_X12_raisesAll (F : Nat) (M : mm) : Option (mm) :=
  bd (lp (b_X12_raisesAll_1 F) F ((0 : Int32), M))
    (fun M7 =>
      some M7)
def b_X12_apologizes_1c (F : Nat) (rc : Int32 → Int32 → mm → Option mm) (a1 : Int32) (a2 : Int32) (x1 : Int32) (x2 : Int32) (x3 : Int32) (x4 : Int32) (x5 : Int32) (M6 : mm) : Option ((Int32 × mm) ⊕ (mm)) :=
  gi (1 : Int32) 12 <|
  if (M6.1 64 0 (Int32.toNatClampNeg (1 : Int32))) ≤ x5 then
    some (.inr M6)
  else
    bd (
      if ((x2 >>> (x5 &&& 31)) &&& (1 : Int32)) = (0 : Int32) then
        some M6
      else
        gi a1 3 <|
        nm (sI M6 107 0 (Int32.toNatClampNeg a1) x5) fun M7 =>
        cv (m_X12_forgives F x5 M7) fun M8 =>
        cl (m_X12_falls F M8) fun x10 M9 =>
        cv (m_X12_raisesAll F M9) fun M11 =>
        cl (m_X12_passes F M11) fun x13 M12 =>
        cv (rc (a1 + (1 : Int32)) a2 M12) fun M14 =>
        gi (0 : Int32) 4 <|
        nm (sI M14 100 0 (Int32.toNatClampNeg (0 : Int32)) x1) fun M15 =>
        gi (1 : Int32) 4 <|
        nm (sI M15 100 0 (Int32.toNatClampNeg (1 : Int32)) x2) fun M16 =>
        gi (2 : Int32) 4 <|
        nm (sI M16 100 0 (Int32.toNatClampNeg (2 : Int32)) x3) fun M17 =>
        gi (3 : Int32) 4 <|
        nm (sI M17 100 0 (Int32.toNatClampNeg (3 : Int32)) x4) fun M18 =>
        some M18
    ) (fun M19 =>
        some (.inl ((x5 + (1 : Int32)), M19)))
def b_X12_apologizes_1 (F : Nat) (rc : Int32 → Int32 → mm → Option mm) (a1 : Int32) (a2 : Int32) (x1 : Int32) (x2 : Int32) (x3 : Int32) (x4 : Int32) : (Int32 × mm) → Option ((Int32 × mm) ⊕ (mm)) := fun z => b_X12_apologizes_1c F rc a1 a2 x1 x2 x3 x4 z.1 z.2
def b_X12_apologizes_2c (F : Nat) (x24 : Int32) (M25 : mm) : Option ((Int32 × mm) ⊕ (mm)) :=
  if (3 : Int32) ≤ x24 then
    some (.inr M25)
  else
    gi x24 3 <|
    gi x24 3 <|
    nm (sI M25 108 0 (Int32.toNatClampNeg x24) (M25.1 107 0 (Int32.toNatClampNeg x24))) fun M26 =>
    some (.inl ((x24 + (1 : Int32)), M26))
def b_X12_apologizes_2 (F : Nat) : (Int32 × mm) → Option ((Int32 × mm) ⊕ (mm)) := fun z => b_X12_apologizes_2c F z.1 z.2
def s_X12_apologizes (rc : Int32 → Int32 → mm → Option mm) (F : Nat) (a1 : Int32) (a2 : Int32) (M : mm) : Option (mm) :=
  if a1 = a2 then
    gi (3 : Int32) 4 <|
    cl (m_X12_weighed F (M.1 100 0 (Int32.toNatClampNeg (3 : Int32))) M) fun x22 M21 =>
    if (M21.1 13 0 60) < x22 then
      nm (sI M21 13 0 60 x22) fun M23 =>
      bd (lp (b_X12_apologizes_2 F) F ((0 : Int32), M23))
        (fun M27 =>
          some M27)
    else
      some M21
  else
    gi (0 : Int32) 4 <|
    nm (M.1 100 0 (Int32.toNatClampNeg (0 : Int32))) fun x1 =>
    gi (1 : Int32) 4 <|
    nm (M.1 100 0 (Int32.toNatClampNeg (1 : Int32))) fun x2 =>
    gi (2 : Int32) 4 <|
    nm (M.1 100 0 (Int32.toNatClampNeg (2 : Int32))) fun x3 =>
    gi (3 : Int32) 4 <|
    nm (M.1 100 0 (Int32.toNatClampNeg (3 : Int32))) fun x4 =>
    bd (lp (b_X12_apologizes_1 F rc a1 a2 x1 x2 x3 x4) F ((0 : Int32), M))
      (fun M20 =>
        some M20)
def s_X12_apologizes_n (F : Nat) : Nat → Int32 → Int32 → mm → Option mm
  | 0 => fun _ _ _ => none
  | n + 1 => s_X12_apologizes (s_X12_apologizes_n F n) F
def m_X12_apologizes (F : Nat) : Int32 → Int32 → mm → Option mm := fun a1 a2 M => s_X12_apologizes_n F 5 a1 a2 M
def m_X12_repair (F : Nat) (a1 : Int32) (a2 : Int32) (M : mm) : Option (Int32 × mm) :=
  nm (sI M 13 0 0 (0 : Int32)) fun M1 =>
  cb (m_X12_within F a1 (1 : Int32) (3 : Int32) M1) fun b3 M2 =>
  if b3 = true then
    cb (m_X12_within F a2 (0 : Int32) a1 M2) fun b5 M4 =>
    if b5 = true then
      gi (1 : Int32) 4 <|
      cl (m_X12_bits F (M4.1 100 0 (Int32.toNatClampNeg (1 : Int32))) M4) fun x7 M6 =>
      if a1 ≤ x7 then
        nm (sI M6 13 0 60 (-1 : Int32)) fun M8 =>
        cv (m_X12_apologizes F (0 : Int32) a1 M8) fun M9 =>
        if a2 = (0 : Int32) then
          some ((M9.1 13 0 60), M9)
        else
          gi (a2 - (1 : Int32)) 3 <|
          some ((M9.1 108 0 (Int32.toNatClampNeg (a2 - (1 : Int32)))), M9)
      else
        some ((-1 : Int32), M6)
    else
      some ((-1 : Int32), M4)
  else
    some ((-1 : Int32), M2)
def m_X12_hear (F : Nat) (a1 : Int32) (a2 : Int32) (M : mm) : Option (Bool × mm) :=
  nm (sI M 13 0 0 (0 : Int32)) fun M1 =>
  cb (m_X12_isStone F a1 M1) fun b3 M2 =>
  if b3 = true then
    gi (0 : Int32) 5 <|
    if (M2.1 97 0 (Int32.toNatClampNeg (0 : Int32))) = (10 : Int32) then
      some (false, M2)
    else
      gi (0 : Int32) 5 <|
      gi (M2.1 97 0 (Int32.toNatClampNeg (0 : Int32))) 50 <|
      nm (sI M2 98 0 (Int32.toNatClampNeg (M2.1 97 0 (Int32.toNatClampNeg (0 : Int32)))) a1) fun M4 =>
      gi (0 : Int32) 5 <|
      gi (M4.1 97 0 (Int32.toNatClampNeg (0 : Int32))) 50 <|
      nm (sI M4 99 0 (Int32.toNatClampNeg (M4.1 97 0 (Int32.toNatClampNeg (0 : Int32)))) (vp_nar .boolean a2)) fun M5 =>
      gi (0 : Int32) 5 <|
      gi (0 : Int32) 5 <|
      nm (sI M5 97 0 (Int32.toNatClampNeg (0 : Int32)) ((M5.1 97 0 (Int32.toNatClampNeg (0 : Int32))) + (1 : Int32))) fun M6 =>
      some (true, M6)
  else
    some (false, M2)
def b_X12_isAsHeard_1c (F : Nat) (a1 : Int32) (M : mm) (x1 : Int32) : Option ((Int32) ⊕ ((Unit) ⊕ (Unit))) :=
  gi (0 : Int32) 5 <|
  if (M.1 97 0 (Int32.toNatClampNeg (0 : Int32))) ≤ x1 then
    some (.inr (.inr ()))
  else
    gi x1 50 <|
    bd (
      if ((a1 >>> ((M.1 98 0 (Int32.toNatClampNeg x1)) &&& 31)) &&& (1 : Int32)) = (1 : Int32) then
        some (1 : Int32)
      else
        some (0 : Int32)
    ) (fun x2 =>
        gi x1 50 <|
        if x2 = (M.1 99 0 (Int32.toNatClampNeg x1)) then
          some (.inl (x1 + (1 : Int32)))
        else
          some (.inr (.inl ())))
def b_X12_isAsHeard_1 (F : Nat) (a1 : Int32) (M : mm) : (Int32) → Option ((Int32) ⊕ ((Unit) ⊕ (Unit))) := fun z => b_X12_isAsHeard_1c F a1 M z
def m_X12_isAsHeard (F : Nat) (a1 : Int32) (M : mm) : Option (Bool × mm) :=
  bd (lp (b_X12_isAsHeard_1 F a1 M) F (0 : Int32))
    (Sum.elim
      (fun z => match z with
        | () =>
          some (false, M))
      (fun z => match z with
        | () =>
          some (true, M)))
def b_X12_broken_1c (F : Nat) (x8 : Int32) (M9 : mm) : Option ((Int32 × mm) ⊕ (mm)) :=
  if (10 : Int32) ≤ x8 then
    some (.inr M9)
  else
    gi x8 10 <|
    nm (sI M9 109 0 (Int32.toNatClampNeg x8) (0 : Int32)) fun M10 =>
    some (.inl ((x8 + (1 : Int32)), M10))
def b_X12_broken_1 (F : Nat) : (Int32 × mm) → Option ((Int32 × mm) ⊕ (mm)) := fun z => b_X12_broken_1c F z.1 z.2
def b_X12_broken_3c (F : Nat) (x22 : Int32) (x27 : Int32) (M28 : mm) : Option ((Int32 × mm) ⊕ (mm)) :=
  if (10 : Int32) ≤ x27 then
    some (.inr M28)
  else
    gi x27 10 <|
    gi x27 10 <|
    nm (sI M28 109 0 (Int32.toNatClampNeg x27) ((M28.1 109 0 (Int32.toNatClampNeg x27)) + ((x22 >>> (x27 &&& 31)) &&& (1 : Int32)))) fun M29 =>
    some (.inl ((x27 + (1 : Int32)), M29))
def b_X12_broken_3 (F : Nat) (x22 : Int32) : (Int32 × mm) → Option ((Int32 × mm) ⊕ (mm)) := fun z => b_X12_broken_3c F x22 z.1 z.2
def b_X12_broken_2c (F : Nat) (a1 : Int32) (x7 : Int32) (x12 : Int32) (x13 : Int32) (x14 : Int32) (x15 : Int32) (M16 : mm) : Option ((Int32 × Int32 × Int32 × Int32 × mm) ⊕ (Int32 × Int32 × Int32 × mm)) :=
  cl (m_X12_allOaths F M16) fun x18 M17 =>
  if x18 < x15 then
    some (.inr (x12, x13, x14, M17))
  else
    bd (
      if (x15 &&& (x7 ^^^ (-1 : Int32))) = (0 : Int32) then
        cl (m_X12_bits F x15 M17) fun x20 M19 =>
        if x20 ≤ a1 then
          cl (m_X12_upIf F x15 M19) fun x22 M21 =>
          cb (m_X12_isAsHeard F x22 M21) fun b24 M23 =>
          if b24 = true then
            nm (x13 &&& x15) fun x25 =>
            nm (x14 ||| x15) fun x26 =>
            bd (lp (b_X12_broken_3 F x22) F ((0 : Int32), M23))
              (fun M30 =>
                some ((x12 + (1 : Int32)), x25, x26, M30))
          else
            some (x12, x13, x14, M23)
        else
          some (x12, x13, x14, M19)
      else
        some (x12, x13, x14, M17)
    ) (fun z => match z with
        | (x31, x32, x33, M34) =>
          some (.inl (x31, x32, x33, (x15 + (1 : Int32)), M34)))
def b_X12_broken_2 (F : Nat) (a1 : Int32) (x7 : Int32) : (Int32 × Int32 × Int32 × Int32 × mm) → Option ((Int32 × Int32 × Int32 × Int32 × mm) ⊕ (Int32 × Int32 × Int32 × mm)) := fun z => b_X12_broken_2c F a1 x7 z.1 z.2.1 z.2.2.1 z.2.2.2.1 z.2.2.2.2
def b_X12_broken_4c (F : Nat) (x35 : Int32) (x39 : Int32) (x40 : Int32) (x41 : Int32) (M42 : mm) : Option ((Int32 × Int32 × Int32 × mm) ⊕ (Int32 × mm)) :=
  gi (2 : Int32) 12 <|
  if (M42.1 64 0 (Int32.toNatClampNeg (2 : Int32))) ≤ x41 then
    some (.inr (x39, M42))
  else
    gi x41 10 <|
    gi x41 10 <|
    nm (if (x35 - (M42.1 109 0 (Int32.toNatClampNeg x41))) < (M42.1 109 0 (Int32.toNatClampNeg x41)) then (x35 - (M42.1 109 0 (Int32.toNatClampNeg x41))) else (M42.1 109 0 (Int32.toNatClampNeg x41))) fun x43 =>
    bd (
      if x40 < x43 then
        some (x41, x43)
      else
        some (x39, x40)
    ) (fun z => match z with
        | (x44, x45) =>
          some (.inl (x44, x45, (x41 + (1 : Int32)), M42)))
def b_X12_broken_4 (F : Nat) (x35 : Int32) : (Int32 × Int32 × Int32 × mm) → Option ((Int32 × Int32 × Int32 × mm) ⊕ (Int32 × mm)) := fun z => b_X12_broken_4c F x35 z.1 z.2.1 z.2.2.1 z.2.2.2
def m_X12_broken (F : Nat) (a1 : Int32) (a2 : Int32) (M : mm) : Option (Int32 × mm) :=
  nm (sI M 13 0 0 (0 : Int32)) fun M1 =>
  cb (m_X12_within F a1 (0 : Int32) (10 : Int32) M1) fun b3 M2 =>
  if b3 = true then
    cb (m_X12_within F a2 (0 : Int32) (3 : Int32) M2) fun b5 M4 =>
    if b5 = true then
      cl (m_X12_loose F M4) fun x7 M6 =>
      bd (lp (b_X12_broken_1 F) F ((0 : Int32), M6))
        (fun M11 =>
          bd (lp (b_X12_broken_2 F a1 x7) F ((0 : Int32), (1023 : Int32), (0 : Int32), (0 : Int32), M11))
            (fun z => match z with
              | (x35, x36, x37, M38) =>
                if x35 = (0 : Int32) then
                  some ((-1 : Int32), M38)
                else if (3 : Int32) ≤ a2 then
                  bd (lp (b_X12_broken_4 F x35) F ((-1 : Int32), (0 : Int32), (0 : Int32), M38))
                    (fun z => match z with
                      | (x46, M47) =>
                        some (x46, M47))
                else if a2 = (0 : Int32) then
                  some (x35, M38)
                else if a2 = (1 : Int32) then
                  some (x36, M38)
                else
                  some (x37, M38)))
    else
      some ((-1 : Int32), M4)
  else
    some ((-1 : Int32), M2)
def b_X12_hasBy_1c (F : Nat) (a2 : Int32) (x1 : Int32) (x2 : Int32) (M3 : mm) : Option ((Int32 × Int32 × mm) ⊕ (Int32 × mm)) :=
  gi (0 : Int32) 12 <|
  if (M3.1 64 0 (Int32.toNatClampNeg (0 : Int32))) ≤ x2 then
    some (.inr (x1, M3))
  else
    bd (
      if ((a2 >>> (x2 &&& 31)) &&& (1 : Int32)) = (1 : Int32) then
        cl (m_X12_oathsOf F x2 M3) fun x5 M4 =>
        some (x5, M4)
      else
        some ((0 : Int32), M3)
    ) (fun z => match z with
        | (x6, M7) =>
          nm (x1 ||| x6) fun x8 =>
          some (.inl (x8, (x2 + (1 : Int32)), M7)))
def b_X12_hasBy_1 (F : Nat) (a2 : Int32) : (Int32 × Int32 × mm) → Option ((Int32 × Int32 × mm) ⊕ (Int32 × mm)) := fun z => b_X12_hasBy_1c F a2 z.1 z.2.1 z.2.2
def b_X12_hasBy_2c (F : Nat) (x12 : Int32) (x17 : Int32) (M19 : mm) (x20 : Int32) (x21 : Int32) : Option ((Int32 × Int32) ⊕ (Int32)) :=
  gi (2 : Int32) 12 <|
  if (M19.1 64 0 (Int32.toNatClampNeg (2 : Int32))) ≤ x21 then
    some (.inr x20)
  else
    bd (
      nm (fun (z : Unit) => match z with
        | () =>
          some (0 : Int32)) fun j152 =>
      if ((x12 >>> (x21 &&& 31)) &&& (1 : Int32)) = (1 : Int32) then
        gi x21 11 <|
        if ((M19.1 106 0 (Int32.toNatClampNeg x21)) &&& x17) = (0 : Int32) then
          j152 ()
        else
          gi x21 20 <|
          some (M19.1 76 0 (Int32.toNatClampNeg x21))
      else
        j152 ()
    ) (fun x22 =>
        nm (x20 + x22) fun x23 =>
        some (.inl (x23, (x21 + (1 : Int32)))))
def b_X12_hasBy_2 (F : Nat) (x12 : Int32) (x17 : Int32) (M19 : mm) : (Int32 × Int32) → Option ((Int32 × Int32) ⊕ (Int32)) := fun z => b_X12_hasBy_2c F x12 x17 M19 z.1 z.2
def m_X12_hasBy (F : Nat) (a1 : Int32) (a2 : Int32) (M : mm) : Option (Int32 × mm) :=
  bd (lp (b_X12_hasBy_1 F a2) F ((0 : Int32), (0 : Int32), M))
    (fun z => match z with
      | (x9, M10) =>
        cl (m_X12_upIf F x9 M10) fun x12 M11 =>
        cl (m_X12_oathsOf F a1 M11) fun x14 M13 =>
        gi (1 : Int32) 4 <|
        cl (m_X12_loose F M13) fun x16 M15 =>
        nm (x14 &&& (((M13.1 100 0 (Int32.toNatClampNeg (1 : Int32))) ||| (x9 &&& x16)) ^^^ (-1 : Int32))) fun x17 =>
        bd (
          if ((a2 >>> (a1 &&& 31)) &&& (1 : Int32)) = (1 : Int32) then
            gi a1 12 <|
            some (M15.1 69 0 (Int32.toNatClampNeg a1))
          else
            some (0 : Int32)
        ) (fun x18 =>
            cv (m_X12_laysRests F x12 M15) fun M19 =>
            bd (lp (b_X12_hasBy_2 F x12 x17 M19) F (x18, (0 : Int32)))
              (fun x24 =>
                some (x24, M19))))
def m_X12_gains (F : Nat) (a1 : Int32) (a2 : Int32) (M : mm) : Option (Int32 × mm) :=
  cb (m_X12_isPerson F a1 M) fun b2 M1 =>
  bd (
    nm (fun (z : Unit) => match z with
      | () =>
        some (1 : Int32)) fun j29 =>
    if b2 = true then
      if a2 < (0 : Int32) then
        j29 ()
      else
        gi (0 : Int32) 12 <|
        if ((1 : Int32) <<< ((M1.1 64 0 (Int32.toNatClampNeg (0 : Int32))) &&& 31)) ≤ a2 then
          j29 ()
        else
          some (0 : Int32)
    else
      j29 ()
  ) (fun x3 =>
      nm (sI M1 13 0 0 x3) fun M4 =>
      if (M4.1 13 0 0) = (1 : Int32) then
        some ((0 : Int32), M4)
      else
        cl (m_X12_hasBy F a1 a2 M4) fun x6 M5 =>
        some (x6, M5))
def b_X12_rests_2c (F : Nat) (x3 : Int32) (x5 : Int32) (x6 : Int32) (M7 : mm) : Option ((Int32 × Int32 × mm) ⊕ (Int32 × mm)) :=
  gi (0 : Int32) 12 <|
  if (M7.1 64 0 (Int32.toNatClampNeg (0 : Int32))) ≤ x6 then
    some (.inr (x5, M7))
  else if x5 = (0 : Int32) then
    some (.inr (x5, M7))
  else
    cl (m_X12_hasBy F x6 (x3 ^^^ ((1 : Int32) <<< (x6 &&& 31))) M7) fun x9 M8 =>
    cl (m_X12_hasBy F x6 x3 M8) fun x11 M10 =>
    bd (
      if x11 < x9 then
        some (0 : Int32)
      else
        some (1 : Int32)
    ) (fun x12 =>
        some (.inl (x12, (x6 + (1 : Int32)), M10)))
def b_X12_rests_2 (F : Nat) (x3 : Int32) : (Int32 × Int32 × mm) → Option ((Int32 × Int32 × mm) ⊕ (Int32 × mm)) := fun z => b_X12_rests_2c F x3 z.1 z.2.1 z.2.2
def b_X12_rests_1c (F : Nat) (a1 : Int32) (x2 : Int32) (x3 : Int32) (M4 : mm) : Option ((Int32 × Int32 × mm) ⊕ ((Int32 × mm) ⊕ (Int32 × mm))) :=
  gi (0 : Int32) 12 <|
  if ((1 : Int32) <<< ((M4.1 64 0 (Int32.toNatClampNeg (0 : Int32))) &&& 31)) ≤ x3 then
    some (.inr (.inr (x2, M4)))
  else
    bd (lp (b_X12_rests_2 F x3) F ((1 : Int32), (0 : Int32), M4))
      (fun z => match z with
        | (x13, M14) =>
          nm (fun (x15 : Int32) =>
            some (.inl (x15, (x3 + (1 : Int32)), M14))) fun j103 =>
          if x13 = (0 : Int32) then
            j103 x2
          else if x2 = a1 then
            some (.inr (.inl (x3, M14)))
          else
            j103 (x2 + (1 : Int32)))
def b_X12_rests_1 (F : Nat) (a1 : Int32) : (Int32 × Int32 × mm) → Option ((Int32 × Int32 × mm) ⊕ ((Int32 × mm) ⊕ (Int32 × mm))) := fun z => b_X12_rests_1c F a1 z.1 z.2.1 z.2.2
def m_X12_rests (F : Nat) (a1 : Int32) (M : mm) : Option (Int32 × mm) :=
  nm (sI M 13 0 0 (0 : Int32)) fun M1 =>
  if (-1 : Int32) ≤ a1 then
    bd (lp (b_X12_rests_1 F a1) F ((0 : Int32), (0 : Int32), M1))
      (Sum.elim
        (fun z => match z with
          | (x16, M17) =>
            some (x16, M17))
        (fun z => match z with
          | (x18, M19) =>
            if a1 = (-1 : Int32) then
              some (x18, M19)
            else
              some ((-1 : Int32), M19)))
  else
    some ((-1 : Int32), M1)
def m_X12_draws (F : Nat) (a1 : Int32) (M : mm) : Option (Int32 × mm) :=
  nm (sL M 13 0 62 ((((M.2.1 13 0 62) * (1103515245 : Int64)) + (12345 : Int64)) - (((M.2.1 13 0 62) * (1103515245 : Int64)) + (12345 : Int64)) / (2147483648 : Int64) * (2147483648 : Int64))) fun M1 =>
  gq ((Int32.toInt64 a1) = 0) <|
  some ((Int64.toInt32 (((M1.2.1 13 0 62) / (65536 : Int64)) - ((M1.2.1 13 0 62) / (65536 : Int64)) / (Int32.toInt64 a1) * (Int32.toInt64 a1))), M1)
def b_X12_firstOf_1c (F : Nat) (a1 : Int32) (x1 : Int32) : Option ((Int32) ⊕ ((Int32) ⊕ (Unit))) :=
  if (10 : Int32) ≤ x1 then
    some (.inr (.inr ()))
  else if ((a1 >>> (x1 &&& 31)) &&& (1 : Int32)) = (1 : Int32) then
    some (.inr (.inl x1))
  else
    some (.inl (x1 + (1 : Int32)))
def b_X12_firstOf_1 (F : Nat) (a1 : Int32) : (Int32) → Option ((Int32) ⊕ ((Int32) ⊕ (Unit))) := fun z => b_X12_firstOf_1c F a1 z
def m_X12_firstOf (F : Nat) (a1 : Int32) (M : mm) : Option (Int32 × mm) :=
  bd (lp (b_X12_firstOf_1 F a1) F (0 : Int32))
    (Sum.elim
      (fun x2 =>
        some (x2, M))
      (fun z => match z with
        | () =>
          some ((-1 : Int32), M)))
def m_X12_livesOne (F : Nat) (a1 : Int32) (M : mm) : Option (mm) :=
  cl (m_X12_draws F (10 : Int32) M) fun x2 M1 =>
  gi a1 12 <|
  if x2 < (M1.1 68 0 (Int32.toNatClampNeg a1)) then
    if x2 = (0 : Int32) then
      cl (m_X12_oathsOf F a1 M1) fun x4 M3 =>
      gi (1 : Int32) 4 <|
      cl (m_X12_firstOf F (x4 &&& (M3.1 100 0 (Int32.toNatClampNeg (1 : Int32)))) M3) fun x6 M5 =>
      if (0 : Int32) ≤ x6 then
        cv (m_X12_forgives F x6 M5) fun M7 =>
        cl (m_X12_falls F M7) fun x9 M8 =>
        cl (m_X12_bits F x9 M8) fun x11 M10 =>
        nm (sI M10 13 0 64 ((M7.1 13 0 64) + x11)) fun M12 =>
        some M12
      else
        some M5
    else
      some M1
  else
    cl (m_X12_oathsOf F a1 M1) fun x14 M13 =>
    cl (m_X12_loose F M13) fun x16 M15 =>
    cl (m_X12_firstOf F (x14 &&& x16) M15) fun x18 M17 =>
    if (0 : Int32) ≤ x18 then
      gi (1 : Int32) 4 <|
      gi (1 : Int32) 4 <|
      nm (sI M17 100 0 (Int32.toNatClampNeg (1 : Int32)) ((M17.1 100 0 (Int32.toNatClampNeg (1 : Int32))) ||| ((1 : Int32) <<< (x18 &&& 31)))) fun M19 =>
      nm (sI M19 13 0 63 ((M19.1 13 0 63) + (1 : Int32))) fun M20 =>
      cl (m_X12_falls F M20) fun x22 M21 =>
      cl (m_X12_bits F x22 M21) fun x24 M23 =>
      nm (sI M23 13 0 64 ((M20.1 13 0 64) + x24)) fun M25 =>
      some M25
    else
      some M17
def b_X12_centuries_2c (F : Nat) (x14 : Int32) (M15 : mm) : Option ((Int32 × mm) ⊕ (mm)) :=
  gi (0 : Int32) 12 <|
  if (M15.1 64 0 (Int32.toNatClampNeg (0 : Int32))) ≤ x14 then
    some (.inr M15)
  else
    cv (m_X12_livesOne F x14 M15) fun M16 =>
    some (.inl ((x14 + (1 : Int32)), M16))
def b_X12_centuries_2 (F : Nat) : (Int32 × mm) → Option ((Int32 × mm) ⊕ (mm)) := fun z => b_X12_centuries_2c F z.1 z.2
def b_X12_centuries_1c (F : Nat) (a2 : Int32) (x12 : Int32) (M13 : mm) : Option ((Int32 × mm) ⊕ (mm)) :=
  if a2 ≤ x12 then
    some (.inr M13)
  else
    bd (lp (b_X12_centuries_2 F) F ((0 : Int32), M13))
      (fun M17 =>
        cl (m_X12_passes F M17) fun x19 M18 =>
        cl (m_X12_bits F x19 M18) fun x21 M20 =>
        nm (sI M20 13 0 64 ((M17.1 13 0 64) + x21)) fun M22 =>
        cv (m_X12_raisesAll F M22) fun M23 =>
        some (.inl ((x12 + (1 : Int32)), M23)))
def b_X12_centuries_1 (F : Nat) (a2 : Int32) : (Int32 × mm) → Option ((Int32 × mm) ⊕ (mm)) := fun z => b_X12_centuries_1c F a2 z.1 z.2
def m_X12_centuries (F : Nat) (a1 : Int32) (a2 : Int32) (a3 : Int32) (M : mm) : Option (Int32 × mm) :=
  nm (sI M 13 0 0 (0 : Int32)) fun M1 =>
  cb (m_X12_within F a1 (0 : Int32) (9999 : Int32) M1) fun b3 M2 =>
  if b3 = true then
    cb (m_X12_within F a2 (1 : Int32) (100 : Int32) M2) fun b5 M4 =>
    if b5 = true then
      cb (m_X12_within F a3 (0 : Int32) (2 : Int32) M4) fun b7 M6 =>
      if b7 = true then
        nm (sL M6 13 0 62 (Int32.toInt64 a1)) fun M8 =>
        cv (m_X12_copies_100_101 F (0 : Int32) (4 : Int32) M8) fun M9 =>
        nm (sI M9 13 0 63 (0 : Int32)) fun M10 =>
        nm (sI M10 13 0 64 (0 : Int32)) fun M11 =>
        bd (lp (b_X12_centuries_1 F a2) F ((0 : Int32), M11))
          (fun M24 =>
            gi (3 : Int32) 4 <|
            nm (M24.1 100 0 (Int32.toNatClampNeg (3 : Int32))) fun x25 =>
            cv (m_X12_copies_101_100 F (4 : Int32) (0 : Int32) M24) fun M26 =>
            if a3 = (0 : Int32) then
              some ((M26.1 13 0 63), M26)
            else if a3 = (1 : Int32) then
              some ((M26.1 13 0 64), M26)
            else
              some (x25, M26))
      else
        some ((-1 : Int32), M6)
    else
      some ((-1 : Int32), M4)
  else
    some ((-1 : Int32), M2)
def b_X12_copies_100_102_1c (F : Nat) (a2 : Int32) (a4 : Int32) (x1 : Int32) (M2 : mm) : Option ((Int32 × mm) ⊕ (mm)) :=
  if (4 : Int32) ≤ x1 then
    some (.inr M2)
  else
    gi (a2 + x1) 4 <|
    gi (a4 + x1) 16 <|
    nm (sI M2 102 0 (Int32.toNatClampNeg (a4 + x1)) (M2.1 100 0 (Int32.toNatClampNeg (a2 + x1)))) fun M3 =>
    some (.inl ((x1 + (1 : Int32)), M3))
def b_X12_copies_100_102_1 (F : Nat) (a2 : Int32) (a4 : Int32) : (Int32 × mm) → Option ((Int32 × mm) ⊕ (mm)) := fun z => b_X12_copies_100_102_1c F a2 a4 z.1 z.2
def m_X12_copies_100_102 (F : Nat) (a2 : Int32) (a4 : Int32) (M : mm) : Option (mm) :=
  bd (lp (b_X12_copies_100_102_1 F a2 a4) F ((0 : Int32), M))
    (fun M4 =>
      some M4)
def b_X12_copies_102_100_1c (F : Nat) (a2 : Int32) (a4 : Int32) (x1 : Int32) (M2 : mm) : Option ((Int32 × mm) ⊕ (mm)) :=
  if (4 : Int32) ≤ x1 then
    some (.inr M2)
  else
    gi (a2 + x1) 16 <|
    gi (a4 + x1) 4 <|
    nm (sI M2 100 0 (Int32.toNatClampNeg (a4 + x1)) (M2.1 102 0 (Int32.toNatClampNeg (a2 + x1)))) fun M3 =>
    some (.inl ((x1 + (1 : Int32)), M3))
def b_X12_copies_102_100_1 (F : Nat) (a2 : Int32) (a4 : Int32) : (Int32 × mm) → Option ((Int32 × mm) ⊕ (mm)) := fun z => b_X12_copies_102_100_1c F a2 a4 z.1 z.2
def m_X12_copies_102_100 (F : Nat) (a2 : Int32) (a4 : Int32) (M : mm) : Option (mm) :=
  bd (lp (b_X12_copies_102_100_1 F a2 a4) F ((0 : Int32), M))
    (fun M4 =>
      some M4)
def m_X12_mark (F : Nat) (a1 : Int32) (a2 : Int32) (M : mm) : Option (Bool × mm) :=
  nm (sI M 13 0 0 (0 : Int32)) fun M1 =>
  cb (m_X12_within F a1 (0 : Int32) (3 : Int32) M1) fun b3 M2 =>
  if b3 = true then
    nm (fun (z : Unit) => match z with
      | () =>
        gi a1 4 <|
        nm (sI M2 104 0 (Int32.toNatClampNeg a1) (vp_nar .boolean (1 : Int32))) fun M4 =>
        bd (
          if a2 = (0 : Int32) then
            some (0 : Int32)
          else
            some ((1 : Int32) + a1)
        ) (fun x5 =>
            bd (
              if a2 = (0 : Int32) then
                some ((1 : Int32) + a1)
              else
                some (0 : Int32)
            ) (fun x6 =>
                cv (m_X12_laysLines F x5 x6 M4) fun M7 =>
                cv (m_X12_laysHeard F x5 x6 M7) fun M8 =>
                if a2 = (0 : Int32) then
                  cv (m_X12_copies_100_102 F (0 : Int32) ((4 : Int32) * a1) M8) fun M9 =>
                  some (true, M9)
                else
                  cv (m_X12_copies_102_100 F ((4 : Int32) * a1) (0 : Int32) M8) fun M10 =>
                  nm (sI M10 13 0 54 (0 : Int32)) fun M11 =>
                  some (true, M11)))) fun j29 =>
    if a2 = (0 : Int32) then
      j29 ()
    else
      gi a1 4 <|
      if (M2.1 104 0 (Int32.toNatClampNeg a1)) = (0 : Int32) then
        some (false, M2)
      else
        j29 ()
  else
    some (false, M2)
def m_X12_count (F : Nat) (a1 : Int32) (M : mm) : Option (Int32 × mm) :=
  nm (sI M 13 0 0 (0 : Int32)) fun M1 =>
  cb (m_X12_within F a1 (0 : Int32) (12 : Int32) M1) fun b3 M2 =>
  if b3 = true then
    if (3 : Int32) ≤ a1 then
      if (6 : Int32) ≤ a1 then
        if (9 : Int32) ≤ a1 then
          if (11 : Int32) ≤ a1 then
            if a1 = (11 : Int32) then
              some ((M2.1 13 0 54), M2)
            else
              some ((M2.1 13 0 1), M2)
          else
            gi (a1 - (5 : Int32)) 12 <|
            some ((M2.1 64 0 (Int32.toNatClampNeg (a1 - (5 : Int32)))), M2)
        else if a1 = (6 : Int32) then
          gi (3 : Int32) 4 <|
          cl (m_X12_weighed F (M2.1 100 0 (Int32.toNatClampNeg (3 : Int32))) M2) fun x5 M4 =>
          some (x5, M4)
        else if a1 = (7 : Int32) then
          gi (0 : Int32) 6 <|
          some ((M2.1 94 0 (Int32.toNatClampNeg (0 : Int32))), M2)
        else
          gi (0 : Int32) 5 <|
          some ((M2.1 97 0 (Int32.toNatClampNeg (0 : Int32))), M2)
      else if a1 = (3 : Int32) then
        gi (0 : Int32) 4 <|
        some ((M2.1 100 0 (Int32.toNatClampNeg (0 : Int32))), M2)
      else
        bd (
          if a1 = (4 : Int32) then
            gi (1 : Int32) 4 <|
            some (M2.1 100 0 (Int32.toNatClampNeg (1 : Int32)))
          else
            gi (3 : Int32) 4 <|
            some (M2.1 100 0 (Int32.toNatClampNeg (3 : Int32)))
        ) (fun x6 =>
            cl (m_X12_bits F x6 M2) fun x8 M7 =>
            some (x8, M7))
    else
      gi a1 12 <|
      some ((M2.1 64 0 (Int32.toNatClampNeg a1)), M2)
  else
    some ((-1 : Int32), M2)
