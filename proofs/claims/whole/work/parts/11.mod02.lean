def b_X10_addChances_2c (F : Nat) (a1 : Int32) (a2 : Int32) (a3 : Int32) (x1 : Int32) (x3 : Int32) (M4 : mm) : Option ((Int32 × mm) ⊕ (mm)) :=
  if x1 < x3 then
    some (.inr M4)
  else
    nm ((x3 * (10 : Int32)) + x1) fun x5 =>
    bd (
      nm (fun (z : Unit) => match z with
        | () =>
          cb (m_X9_bearsNew F (((1 : Int32) <<< (x3 &&& 31)) ||| ((1 : Int32) <<< (x1 &&& 31))) a1 M4) fun b7 M6 =>
          if b7 = true then
            bd (
              if a3 = (0 : Int32) then
                gi x5 100 <|
                some ((M6.1 57 0 (Int32.toNatClampNeg x5)) + a2)
              else
                some (0 : Int32)
            ) (fun x8 =>
                gi x5 100 <|
                nm (sI M6 57 0 (Int32.toNatClampNeg x5) x8) fun M9 =>
                some M9)
          else
            some M6) fun j50 =>
      if a3 = (0 : Int32) then
        gi x5 100 <|
        if (M4.1 57 0 (Int32.toNatClampNeg x5)) = (-1 : Int32) then
          some M4
        else
          j50 ()
      else
        j50 ()
    ) (fun M10 =>
        some (.inl ((x3 + (1 : Int32)), M10)))
def b_X10_addChances_2 (F : Nat) (a1 : Int32) (a2 : Int32) (a3 : Int32) (x1 : Int32) : (Int32 × mm) → Option ((Int32 × mm) ⊕ (mm)) := fun z => b_X10_addChances_2c F a1 a2 a3 x1 z.1 z.2
def b_X10_addChances_1c (F : Nat) (a1 : Int32) (a2 : Int32) (a3 : Int32) (x1 : Int32) (M2 : mm) : Option ((Int32 × mm) ⊕ (mm)) :=
  if (M2.1 1 (M2.2.2 11 0 1) 5) ≤ x1 then
    some (.inr M2)
  else
    bd (lp (b_X10_addChances_2 F a1 a2 a3 x1) F ((0 : Int32), M2))
      (fun M11 =>
        some (.inl ((x1 + (1 : Int32)), M11)))
def b_X10_addChances_1 (F : Nat) (a1 : Int32) (a2 : Int32) (a3 : Int32) : (Int32 × mm) → Option ((Int32 × mm) ⊕ (mm)) := fun z => b_X10_addChances_1c F a1 a2 a3 z.1 z.2
def m_X10_addChances (F : Nat) (a1 : Int32) (a2 : Int32) (a3 : Int32) (M : mm) : Option (mm) :=
  bd (lp (b_X10_addChances_1 F a1 a2 a3) F ((0 : Int32), M))
    (fun M12 =>
      some M12)
def m_X10_prefer (F : Nat) (a1 : Int32) (a2 : Int32) (M : mm) : Option (mm) :=
  gi ((a1 * (10 : Int32)) + a2) 100 <|
  nm (M.1 57 0 (Int32.toNatClampNeg ((a1 * (10 : Int32)) + a2))) fun x1 =>
  if x1 ≤ (M.1 11 0 10) then
    some M
  else
    nm (sI M 11 0 10 x1) fun M2 =>
    nm (sI M2 11 0 11 (((1 : Int32) <<< (a1 &&& 31)) ||| ((1 : Int32) <<< (a2 &&& 31)))) fun M3 =>
    some M3
def b_X10_findSurest_1c (F : Nat) (x1 : Int32) (M2 : mm) : Option ((Int32 × mm) ⊕ (mm)) :=
  if (100 : Int32) ≤ x1 then
    some (.inr M2)
  else
    gi x1 100 <|
    nm (sI M2 57 0 (Int32.toNatClampNeg x1) (-1 : Int32)) fun M3 =>
    some (.inl ((x1 + (1 : Int32)), M3))
def b_X10_findSurest_1 (F : Nat) : (Int32 × mm) → Option ((Int32 × mm) ⊕ (mm)) := fun z => b_X10_findSurest_1c F z.1 z.2
def b_X10_findSurest_2c (F : Nat) (a1 : Int32) (x7 : Int32) (M8 : mm) : Option ((Int32 × mm) ⊕ (mm)) :=
  if ((1 : Int32) <<< ((M8.1 1 (M8.2.2 11 0 1) 0) &&& 31)) ≤ x7 then
    some (.inr M8)
  else
    cl (m_X10_chanceOfChoices F x7 M8) fun x10 M9 =>
    cl (m_X10_brokenBy F x7 M9) fun x12 M11 =>
    bd (
      if x10 ≤ (0 : Int32) then
        some M11
      else
        cl (m_X10_upIf F x12 M11) fun x14 M13 =>
        if x14 = (M13.1 5 0 3) then
          cv (m_X10_layBase F x12 M13) fun M15 =>
          cv (m_X10_addChances F a1 x10 (0 : Int32) M15) fun M16 =>
          some M16
        else
          some M13
    ) (fun M17 =>
        some (.inl ((x7 + (1 : Int32)), M17)))
def b_X10_findSurest_2 (F : Nat) (a1 : Int32) : (Int32 × mm) → Option ((Int32 × mm) ⊕ (mm)) := fun z => b_X10_findSurest_2c F a1 z.1 z.2
def b_X10_findSurest_4c (F : Nat) (x21 : Int32) (x24 : Int32) (M25 : mm) : Option ((Int32 × mm) ⊕ (mm)) :=
  if x21 ≤ x24 then
    some (.inr M25)
  else
    cv (m_X10_prefer F x24 x21 M25) fun M26 =>
    some (.inl ((x24 + (1 : Int32)), M26))
def b_X10_findSurest_4 (F : Nat) (x21 : Int32) : (Int32 × mm) → Option ((Int32 × mm) ⊕ (mm)) := fun z => b_X10_findSurest_4c F x21 z.1 z.2
def b_X10_findSurest_3c (F : Nat) (x21 : Int32) (M22 : mm) : Option ((Int32 × mm) ⊕ (mm)) :=
  if (M22.1 1 (M22.2.2 11 0 1) 5) ≤ x21 then
    some (.inr M22)
  else
    cv (m_X10_prefer F x21 x21 M22) fun M23 =>
    bd (lp (b_X10_findSurest_4 F x21) F ((0 : Int32), M23))
      (fun M27 =>
        some (.inl ((x21 + (1 : Int32)), M27)))
def b_X10_findSurest_3 (F : Nat) : (Int32 × mm) → Option ((Int32 × mm) ⊕ (mm)) := fun z => b_X10_findSurest_3c F z.1 z.2
def m_X10_findSurest (F : Nat) (a1 : Int32) (M : mm) : Option (mm) :=
  bd (lp (b_X10_findSurest_1 F) F ((0 : Int32), M))
    (fun M4 =>
      cv (m_X10_layBase F (0 : Int32) M4) fun M5 =>
      cv (m_X10_addChances F a1 (0 : Int32) (1 : Int32) M5) fun M6 =>
      bd (lp (b_X10_findSurest_2 F a1) F ((0 : Int32), M6))
        (fun M18 =>
          nm (sI M18 11 0 10 (-1 : Int32)) fun M19 =>
          nm (sI M19 11 0 11 (-1 : Int32)) fun M20 =>
          bd (lp (b_X10_findSurest_3 F) F ((0 : Int32), M20))
            (fun M28 =>
              some M28)))
def m_X11_surest (F : Nat) (a1 : Int32) (a2 : Int32) (M : mm) : Option (Int32 × mm) :=
  if a1 < (0 : Int32) then
    some ((-1 : Int32), M)
  else if (99 : Int32) < a1 then
    some ((-1 : Int32), M)
  else if a2 < (0 : Int32) then
    some ((-1 : Int32), M)
  else if a2 ≤ (1 : Int32) then
    cv (m_X10_look F (M.2.2 12 0 6) 7 M) fun M1 =>
    cv (m_X10_findSurest F a1 M1) fun M2 =>
    if a2 = (0 : Int32) then
      some ((M2.1 11 0 10), M2)
    else
      some ((M2.1 11 0 11), M2)
  else
    some ((-1 : Int32), M)
def b_X10_endsClashes_1c (F : Nat) (x1 : Int32) (M : mm) (x2 : Int32) : Option ((Int32) ⊕ ((Unit) ⊕ (Unit))) :=
  if (M.1 1 (M.2.2 11 0 1) 5) ≤ x2 then
    some (.inr (.inr ()))
  else
    nm (fun (z : Unit) => match z with
      | () =>
        some (.inl (x2 + (1 : Int32)))) fun j49 =>
    if ((x1 >>> (x2 &&& 31)) &&& (1 : Int32)) = (0 : Int32) then
      j49 ()
    else
      gi x2 10 <|
      if ((M.1 29 (M.2.2 11 0 1) (Int32.toNatClampNeg x2)) &&& x1) = (0 : Int32) then
        j49 ()
      else
        some (.inr (.inl ()))
def b_X10_endsClashes_1 (F : Nat) (x1 : Int32) (M : mm) : (Int32) → Option ((Int32) ⊕ ((Unit) ⊕ (Unit))) := fun z => b_X10_endsClashes_1c F x1 M z
def m_X10_endsClashes (F : Nat) (a1 : Int32) (M : mm) : Option (Bool × mm) :=
  nm (((M.1 5 0 1) ||| a1) ^^^ (-1 : Int32)) fun x1 =>
  bd (lp (b_X10_endsClashes_1 F x1 M) F (0 : Int32))
    (Sum.elim
      (fun z => match z with
        | () =>
          some (false, M))
      (fun z => match z with
        | () =>
          some (true, M)))
def b_X10_fewestToKeep_2c (F : Nat) (x1 : Int32) (x3 : Int32) (M4 : mm) : Option ((Int32 × mm) ⊕ ((Int32 × mm) ⊕ (mm))) :=
  if ((1 : Int32) <<< ((M4.1 1 (M4.2.2 11 0 1) 5) &&& 31)) ≤ x3 then
    some (.inr (.inr M4))
  else
    cb (m_X10_canBreak F x3 M4) fun b6 M5 =>
    nm (fun (M13 : mm) =>
      some (.inl ((x3 + (1 : Int32)), M13))) fun j69 =>
    if b6 = true then
      cl (m_J6_bitCount_0f7a4 F x3 M5) fun x8 M7 =>
      if x8 = x1 then
        cb (m_X10_endsClashes F x3 M7) fun b10 M9 =>
        if b10 = true then
          cl (m_X10_upIf F x3 M9) fun x12 M11 =>
          if x12 = (M11.1 5 0 3) then
            some (.inr (.inl (x3, M11)))
          else
            j69 M11
        else
          j69 M9
      else
        j69 M7
    else
      j69 M5
def b_X10_fewestToKeep_2 (F : Nat) (x1 : Int32) : (Int32 × mm) → Option ((Int32 × mm) ⊕ ((Int32 × mm) ⊕ (mm))) := fun z => b_X10_fewestToKeep_2c F x1 z.1 z.2
def b_X10_fewestToKeep_1c (F : Nat) (x1 : Int32) (M2 : mm) : Option ((Int32 × mm) ⊕ ((Int32 × mm) ⊕ (mm))) :=
  if (M2.1 1 (M2.2.2 11 0 1) 5) < x1 then
    some (.inr (.inr M2))
  else
    bd (lp (b_X10_fewestToKeep_2 F x1) F ((0 : Int32), M2))
      (Sum.elim
        (fun z => match z with
          | (x14, M15) =>
            some (.inr (.inl (x14, M15))))
        (fun M16 =>
          some (.inl ((x1 + (1 : Int32)), M16))))
def b_X10_fewestToKeep_1 (F : Nat) : (Int32 × mm) → Option ((Int32 × mm) ⊕ ((Int32 × mm) ⊕ (mm))) := fun z => b_X10_fewestToKeep_1c F z.1 z.2
def m_X10_fewestToKeep (F : Nat) (M : mm) : Option (Int32 × mm) :=
  bd (lp (b_X10_fewestToKeep_1 F) F ((0 : Int32), M))
    (Sum.elim
      (fun z => match z with
        | (x17, M18) =>
          some (x17, M18))
      (fun M19 =>
        some ((-1 : Int32), M19)))
def m_X11_keep (F : Nat) (M : mm) : Option (Int32 × mm) :=
  cv (m_X10_look F (M.2.2 12 0 6) 7 M) fun M1 =>
  cl (m_X10_fewestToKeep F M1) fun x3 M2 =>
  some (x3, M2)
def b_X7_apologise_1c (F : Nat) (a1 : Nat) (x1 : Nat) (x5 : Int32) (M6 : mm) : Option ((Int32 × mm) ⊕ (mm)) :=
  if (M6.1 1 a1 13) ≤ x5 then
    some (.inr M6)
  else
    cb (m_X1_lift F a1 x1 x5 M6) fun b8 M7 =>
    some (.inl ((x5 + (1 : Int32)), M7))
def b_X7_apologise_1 (F : Nat) (a1 : Nat) (x1 : Nat) : (Int32 × mm) → Option ((Int32 × mm) ⊕ (mm)) := fun z => b_X7_apologise_1c F a1 x1 z.1 z.2
def m_X7_apologise (F : Nat) (a1 : Nat) (a2 : Int32) (M : mm) : Option (Bool × mm) :=
  gi (a2 + (1 : Int32)) 4 <|
  nm (3 + Int32.toNatClampNeg (a2 + (1 : Int32))) fun x1 =>
  gi a2 4 <|
  cv (m_X4_copy F x1 (3 + Int32.toNatClampNeg a2) M) fun M2 =>
  gi a2 3 <|
  cb (m_X1_pardon F a1 x1 (M2.1 43 0 (Int32.toNatClampNeg a2)) M2) fun b4 M3 =>
  if b4 = true then
    bd (lp (b_X7_apologise_1 F a1 x1) F ((0 : Int32), M3))
      (fun M9 =>
        cv (m_X1_pass F a1 x1 M9) fun M10 =>
        some (true, M10))
  else
    some (false, M3)
def b_X0_weightOf_1c (F : Nat) (o : Nat) (a1 : Int32) (M : mm) (x1 : Int32) (x2 : Int32) : Option ((Int32 × Int32) ⊕ (Int32)) :=
  if (M.1 1 o 13) ≤ x2 then
    some (.inr x1)
  else
    bd (
      if ((a1 >>> (x2 &&& 31)) &&& (1 : Int32)) = (0 : Int32) then
        some (0 : Int32)
      else
        gi x2 10 <|
        some (M.1 31 o (Int32.toNatClampNeg x2))
    ) (fun x3 =>
        nm (x1 + x3) fun x4 =>
        some (.inl (x4, (x2 + (1 : Int32)))))
def b_X0_weightOf_1 (F : Nat) (o : Nat) (a1 : Int32) (M : mm) : (Int32 × Int32) → Option ((Int32 × Int32) ⊕ (Int32)) := fun z => b_X0_weightOf_1c F o a1 M z.1 z.2
def m_X0_weightOf (F : Nat) (o : Nat) (a1 : Int32) (M : mm) : Option (Int32 × mm) :=
  bd (lp (b_X0_weightOf_1 F o a1 M) F ((0 : Int32), (0 : Int32)))
    (fun x5 =>
      some (x5, M))
def b_X7_preferRow_1c (F : Nat) (a2 : Int32) (x2 : Int32) (M3 : mm) : Option ((Int32 × mm) ⊕ (mm)) :=
  if a2 ≤ x2 then
    some (.inr M3)
  else
    gi x2 3 <|
    gi x2 3 <|
    nm (sI M3 44 0 (Int32.toNatClampNeg x2) (M3.1 43 0 (Int32.toNatClampNeg x2))) fun M4 =>
    some (.inl ((x2 + (1 : Int32)), M4))
def b_X7_preferRow_1 (F : Nat) (a2 : Int32) : (Int32 × mm) → Option ((Int32 × mm) ⊕ (mm)) := fun z => b_X7_preferRow_1c F a2 z.1 z.2
def m_X7_preferRow (F : Nat) (a1 : Int32) (a2 : Int32) (M : mm) : Option (mm) :=
  if a1 ≤ (M.1 8 0 5) then
    some M
  else
    nm (sI M 8 0 5 a1) fun M1 =>
    bd (lp (b_X7_preferRow_1 F a2) F ((0 : Int32), M1))
      (fun M5 =>
        some M5)
def b_X7_findRow_1c (F : Nat) (a1 : Nat) (a3 : Int32) (x4 : Int32) (x5 : Int32) (M6 : mm) : Option ((Int32 × Int32 × mm) ⊕ (mm)) :=
  if (10000 : Int32) ≤ x5 then
    some (.inr M6)
  else if x4 < (0 : Int32) then
    some (.inr M6)
  else
    gi x4 3 <|
    gi x4 3 <|
    nm (sI M6 43 0 (Int32.toNatClampNeg x4) ((M6.1 43 0 (Int32.toNatClampNeg x4)) + (1 : Int32))) fun M7 =>
    gi x4 3 <|
    bd (
      if (M7.1 43 0 (Int32.toNatClampNeg x4)) < (M7.1 1 a1 5) then
        cb (m_X7_apologise F a1 x4 M7) fun b9 M8 =>
        if b9 = true then
          if a3 ≤ (x4 + (1 : Int32)) then
            gi a3 4 <|
            cl (m_X0_weightOf F a1 (M8.1 5 (3 + Int32.toNatClampNeg a3) 3) M8) fun x11 M10 =>
            cv (m_X7_preferRow F x11 a3 M10) fun M12 =>
            some (x4, M12)
          else
            gi (x4 + (1 : Int32)) 3 <|
            nm (sI M8 43 0 (Int32.toNatClampNeg (x4 + (1 : Int32))) (-1 : Int32)) fun M13 =>
            some ((x4 + (1 : Int32)), M13)
        else
          some (x4, M8)
      else
        some ((x4 + (-1 : Int32)), M7)
    ) (fun z => match z with
        | (x14, M15) =>
          some (.inl (x14, (x5 + (1 : Int32)), M15)))
def b_X7_findRow_1 (F : Nat) (a1 : Nat) (a3 : Int32) : (Int32 × Int32 × mm) → Option ((Int32 × Int32 × mm) ⊕ (mm)) := fun z => b_X7_findRow_1c F a1 a3 z.1 z.2.1 z.2.2
def m_X7_findRow (F : Nat) (a1 : Nat) (a2 : Nat) (a3 : Int32) (M : mm) : Option (mm) :=
  nm (sI M 8 0 5 (-1 : Int32)) fun M1 =>
  gi (0 : Int32) 4 <|
  cv (m_X4_copy F (3 + Int32.toNatClampNeg (0 : Int32)) a2 M1) fun M2 =>
  gi (0 : Int32) 3 <|
  nm (sI M2 43 0 (Int32.toNatClampNeg (0 : Int32)) (-1 : Int32)) fun M3 =>
  bd (lp (b_X7_findRow_1 F a1 a3) F ((0 : Int32), (0 : Int32), M3))
    (fun M16 =>
      some M16)
def m_X11_repair (F : Nat) (a1 : Int32) (a2 : Int32) (M : mm) : Option (Int32 × mm) :=
  if a1 < (1 : Int32) then
    some ((-1 : Int32), M)
  else if (3 : Int32) < a1 then
    some ((-1 : Int32), M)
  else if a2 < (0 : Int32) then
    some ((-1 : Int32), M)
  else if a1 < a2 then
    some ((-1 : Int32), M)
  else
    cl (m_J6_bitCount_0f7a4 F (M.1 5 7 1) M) fun x2 M1 =>
    if a1 ≤ x2 then
      cv (m_X7_findRow F (M1.2.2 12 0 6) 7 a1 M1) fun M3 =>
      if a2 = (0 : Int32) then
        some ((M3.1 8 0 5), M3)
      else
        gi (a2 - (1 : Int32)) 3 <|
        some ((M3.1 44 0 (Int32.toNatClampNeg (a2 - (1 : Int32)))), M3)
    else
      some ((-1 : Int32), M1)
def m_X11_hear (F : Nat) (a1 : Int32) (a2 : Int32) (M : mm) : Option (Bool × mm) :=
  cb (m_X0_hasStone F (M.2.2 12 0 6) a1 M) fun b2 M1 =>
  if b2 = true then
    if (M1.1 9 0 3) < (10 : Int32) then
      nm (sI M1 9 0 3 ((M1.1 9 0 3) + (1 : Int32))) fun M3 =>
      if a2 = (0 : Int32) then
        nm (sI M3 9 0 5 ((M3.1 9 0 5) ||| ((1 : Int32) <<< (a1 &&& 31)))) fun M4 =>
        some (true, M4)
      else
        nm (sI M3 9 0 4 ((M3.1 9 0 4) ||| ((1 : Int32) <<< (a1 &&& 31)))) fun M5 =>
        some (true, M5)
    else
      some (false, M1)
  else
    some (false, M1)
def m_X8_agrees (F : Nat) (o : Nat) (a1 : Int32) (M : mm) : Option (Bool × mm) :=
  if ((M.1 9 o 4) &&& (a1 ^^^ (-1 : Int32))) = (0 : Int32) then
    if ((M.1 9 o 5) &&& a1) = (0 : Int32) then
      some (true, M)
    else
      some (false, M)
  else
    some (false, M)
def b_X10_addSet_1c (F : Nat) (a1 : Int32) (x4 : Int32) (M5 : mm) : Option ((Int32 × mm) ⊕ (mm)) :=
  if (M5.1 1 (M5.2.2 11 0 1) 13) ≤ x4 then
    some (.inr M5)
  else
    gi x4 10 <|
    cl (m_X10_upIf F a1 M5) fun x7 M6 =>
    gi x4 10 <|
    nm (sI M6 58 0 (Int32.toNatClampNeg x4) ((M5.1 58 0 (Int32.toNatClampNeg x4)) + ((x7 >>> (x4 &&& 31)) &&& (1 : Int32)))) fun M8 =>
    some (.inl ((x4 + (1 : Int32)), M8))
def b_X10_addSet_1 (F : Nat) (a1 : Int32) : (Int32 × mm) → Option ((Int32 × mm) ⊕ (mm)) := fun z => b_X10_addSet_1c F a1 z.1 z.2
def m_X10_addSet (F : Nat) (a1 : Int32) (M : mm) : Option (mm) :=
  nm (sI M 11 0 12 ((M.1 11 0 12) + (1 : Int32))) fun M1 =>
  nm (sI M1 11 0 13 ((M1.1 11 0 13) &&& a1)) fun M2 =>
  nm (sI M2 11 0 14 ((M2.1 11 0 14) ||| a1)) fun M3 =>
  bd (lp (b_X10_addSet_1 F a1) F ((0 : Int32), M3))
    (fun M9 =>
      some M9)
def b_X10_findSets_1c (F : Nat) (x4 : Int32) (M5 : mm) : Option ((Int32 × mm) ⊕ (mm)) :=
  if (10 : Int32) ≤ x4 then
    some (.inr M5)
  else
    gi x4 10 <|
    nm (sI M5 58 0 (Int32.toNatClampNeg x4) (0 : Int32)) fun M6 =>
    some (.inl ((x4 + (1 : Int32)), M6))
def b_X10_findSets_1 (F : Nat) : (Int32 × mm) → Option ((Int32 × mm) ⊕ (mm)) := fun z => b_X10_findSets_1c F z.1 z.2
def b_X10_findSets_2c (F : Nat) (a1 : Nat) (a2 : Int32) (x8 : Int32) (M9 : mm) : Option ((Int32 × mm) ⊕ (mm)) :=
  if ((1 : Int32) <<< ((M9.1 1 (M9.2.2 11 0 1) 5) &&& 31)) ≤ x8 then
    some (.inr M9)
  else
    cb (m_X10_canBreak F x8 M9) fun b11 M10 =>
    bd (
      if b11 = true then
        cl (m_J6_bitCount_0f7a4 F x8 M10) fun x13 M12 =>
        if a2 < x13 then
          some M12
        else
          cl (m_X10_upIf F x8 M12) fun x15 M14 =>
          cb (m_X8_agrees F a1 x15 M14) fun b17 M16 =>
          if b17 = true then
            cv (m_X10_addSet F x8 M16) fun M18 =>
            some M18
          else
            some M16
      else
        some M10
    ) (fun M19 =>
        some (.inl ((x8 + (1 : Int32)), M19)))
def b_X10_findSets_2 (F : Nat) (a1 : Nat) (a2 : Int32) : (Int32 × mm) → Option ((Int32 × mm) ⊕ (mm)) := fun z => b_X10_findSets_2c F a1 a2 z.1 z.2
def m_X10_findSets (F : Nat) (a1 : Nat) (a2 : Int32) (M : mm) : Option (mm) :=
  nm (sI M 11 0 12 (0 : Int32)) fun M1 =>
  nm (sI M1 11 0 13 (M1.1 11 0 8)) fun M2 =>
  nm (sI M2 11 0 14 (0 : Int32)) fun M3 =>
  bd (lp (b_X10_findSets_1 F) F ((0 : Int32), M3))
    (fun M7 =>
      bd (lp (b_X10_findSets_2 F a1 a2) F ((0 : Int32), M7))
        (fun M20 =>
          some M20))
def b_X10_evenestStone_1c (F : Nat) (M : mm) (x1 : Int32) (x2 : Int32) (x3 : Int32) : Option ((Int32 × Int32 × Int32) ⊕ (Int32)) :=
  if (M.1 1 (M.2.2 11 0 1) 13) ≤ x3 then
    some (.inr x1)
  else
    gi x3 10 <|
    gi x3 10 <|
    bd (
      if ((M.1 11 0 12) - (M.1 58 0 (Int32.toNatClampNeg x3))) ≤ (M.1 58 0 (Int32.toNatClampNeg x3)) then
        gi x3 10 <|
        some ((M.1 11 0 12) - (M.1 58 0 (Int32.toNatClampNeg x3)))
      else
        gi x3 10 <|
        some (M.1 58 0 (Int32.toNatClampNeg x3))
    ) (fun x4 =>
        bd (
          if x4 ≤ x2 then
            some (x1, x2)
          else
            some (x3, x4)
        ) (fun z => match z with
            | (x5, x6) =>
              some (.inl (x5, x6, (x3 + (1 : Int32))))))
def b_X10_evenestStone_1 (F : Nat) (M : mm) : (Int32 × Int32 × Int32) → Option ((Int32 × Int32 × Int32) ⊕ (Int32)) := fun z => b_X10_evenestStone_1c F M z.1 z.2.1 z.2.2
def m_X10_evenestStone (F : Nat) (M : mm) : Option (Int32 × mm) :=
  bd (lp (b_X10_evenestStone_1 F M) F ((-1 : Int32), (0 : Int32), (0 : Int32)))
    (fun x7 =>
      some (x7, M))
def m_X11_broken (F : Nat) (a1 : Int32) (a2 : Int32) (M : mm) : Option (Int32 × mm) :=
  if a1 < (0 : Int32) then
    some ((-1 : Int32), M)
  else if (10 : Int32) < a1 then
    some ((-1 : Int32), M)
  else if a2 < (0 : Int32) then
    some ((-1 : Int32), M)
  else if a2 ≤ (3 : Int32) then
    cv (m_X10_look F (M.2.2 12 0 6) 7 M) fun M1 =>
    cv (m_X10_findSets F 0 a1 M1) fun M2 =>
    if (M2.1 11 0 12) = (0 : Int32) then
      some ((-1 : Int32), M2)
    else if a2 = (0 : Int32) then
      some ((M2.1 11 0 12), M2)
    else if a2 = (1 : Int32) then
      some ((M2.1 11 0 13), M2)
    else if a2 = (2 : Int32) then
      some ((M2.1 11 0 14), M2)
    else
      cl (m_X10_evenestStone F M2) fun x4 M3 =>
      some (x4, M3)
  else
    some ((-1 : Int32), M)
def m_X10_choose (F : Nat) (a1 : Int32) (M : mm) : Option (mm) :=
  cl (m_X10_brokenBy F a1 M) fun x2 M1 =>
  cl (m_X10_upIf F x2 M1) fun x4 M3 =>
  nm (sI M3 11 0 17 x4) fun M5 =>
  nm (sI M5 11 0 18 (((M5.1 5 0 1) ||| x2) ^^^ (-1 : Int32))) fun M6 =>
  cv (m_X9_settle F (M6.2.2 11 0 1) (M6.1 11 0 17) M6) fun M7 =>
  some M7
def b_X10_gainOf_1c (F : Nat) (x2 : Int32) (M : mm) (x3 : Int32) (x4 : Int32) : Option ((Int32 × Int32) ⊕ (Int32)) :=
  if (M.1 1 (M.2.2 11 0 1) 13) ≤ x4 then
    some (.inr x3)
  else
    bd (
      if (((M.1 11 0 17) >>> (x4 &&& 31)) &&& (1 : Int32)) = (0 : Int32) then
        some x3
      else
        gi x4 11 <|
        if ((M.1 47 0 (Int32.toNatClampNeg x4)) &&& x2) = (0 : Int32) then
          some x3
        else
          gi x4 10 <|
          nm (x3 + (M.1 32 (M.2.2 11 0 1) (Int32.toNatClampNeg x4))) fun x5 =>
          some x5
    ) (fun x6 =>
        some (.inl (x6, (x4 + (1 : Int32)))))
def b_X10_gainOf_1 (F : Nat) (x2 : Int32) (M : mm) : (Int32 × Int32) → Option ((Int32 × Int32) ⊕ (Int32)) := fun z => b_X10_gainOf_1c F x2 M z.1 z.2
def m_X10_gainOf (F : Nat) (a1 : Int32) (a2 : Int32) (M : mm) : Option (Int32 × mm) :=
  bd (
    if ((a2 >>> (a1 &&& 31)) &&& (1 : Int32)) = (0 : Int32) then
      some (0 : Int32)
    else
      gi a1 6 <|
      some (M.1 22 (M.2.2 11 0 1) (Int32.toNatClampNeg a1))
  ) (fun x1 =>
      gi a1 6 <|
      nm ((M.1 23 (M.2.2 11 0 1) (Int32.toNatClampNeg a1)) &&& (M.1 11 0 18)) fun x2 =>
      bd (lp (b_X10_gainOf_1 F x2 M) F (x1, (0 : Int32)))
        (fun x7 =>
          some (x7, M)))
def b_X10_fillGains_2c (F : Nat) (x1 : Int32) (x4 : Int32) (M5 : mm) : Option ((Int32 × mm) ⊕ (mm)) :=
  if (M5.1 1 (M5.2.2 11 0 1) 0) ≤ x4 then
    some (.inr M5)
  else
    cl (m_X10_gainOf F x4 x1 M5) fun x7 M6 =>
    gi ((x1 * (6 : Int32)) + x4) 384 <|
    nm (sI M6 59 0 (Int32.toNatClampNeg ((x1 * (6 : Int32)) + x4)) x7) fun M8 =>
    some (.inl ((x4 + (1 : Int32)), M8))
def b_X10_fillGains_2 (F : Nat) (x1 : Int32) : (Int32 × mm) → Option ((Int32 × mm) ⊕ (mm)) := fun z => b_X10_fillGains_2c F x1 z.1 z.2
def b_X10_fillGains_1c (F : Nat) (x1 : Int32) (M2 : mm) : Option ((Int32 × mm) ⊕ (mm)) :=
  if ((1 : Int32) <<< ((M2.1 1 (M2.2.2 11 0 1) 0) &&& 31)) ≤ x1 then
    some (.inr M2)
  else
    cv (m_X10_choose F x1 M2) fun M3 =>
    bd (lp (b_X10_fillGains_2 F x1) F ((0 : Int32), M3))
      (fun M9 =>
        some (.inl ((x1 + (1 : Int32)), M9)))
def b_X10_fillGains_1 (F : Nat) : (Int32 × mm) → Option ((Int32 × mm) ⊕ (mm)) := fun z => b_X10_fillGains_1c F z.1 z.2
def m_X10_fillGains (F : Nat) (M : mm) : Option (mm) :=
  bd (lp (b_X10_fillGains_1 F) F ((0 : Int32), M))
    (fun M10 =>
      some M10)
def b_X10_isRest_1c (F : Nat) (a1 : Int32) (M : mm) (x1 : Int32) : Option ((Int32) ⊕ ((Unit) ⊕ (Unit))) :=
  if (M.1 1 (M.2.2 11 0 1) 0) ≤ x1 then
    some (.inr (.inr ()))
  else
    nm (a1 ^^^ ((1 : Int32) <<< (x1 &&& 31))) fun x2 =>
    gi ((x2 * (6 : Int32)) + x1) 384 <|
    gi ((a1 * (6 : Int32)) + x1) 384 <|
    if (M.1 59 0 (Int32.toNatClampNeg ((x2 * (6 : Int32)) + x1))) ≤ (M.1 59 0 (Int32.toNatClampNeg ((a1 * (6 : Int32)) + x1))) then
      some (.inl (x1 + (1 : Int32)))
    else
      some (.inr (.inl ()))
def b_X10_isRest_1 (F : Nat) (a1 : Int32) (M : mm) : (Int32) → Option ((Int32) ⊕ ((Unit) ⊕ (Unit))) := fun z => b_X10_isRest_1c F a1 M z
def m_X10_isRest (F : Nat) (a1 : Int32) (M : mm) : Option (Bool × mm) :=
  bd (lp (b_X10_isRest_1 F a1 M) F (0 : Int32))
    (Sum.elim
      (fun z => match z with
        | () =>
          some (false, M))
      (fun z => match z with
        | () =>
          some (true, M)))
def b_X11_rests_1c (F : Nat) (a1 : Int32) (x3 : Int32) (x4 : Int32) (M5 : mm) : Option ((Int32 × Int32 × mm) ⊕ ((Int32 × mm) ⊕ (Int32 × mm))) :=
  if ((1 : Int32) <<< ((M5.1 1 (M5.2.2 12 0 6) 0) &&& 31)) ≤ x4 then
    some (.inr (.inr (x3, M5)))
  else
    cb (m_X10_isRest F x4 M5) fun b7 M6 =>
    nm (fun (x8 : Int32) =>
      some (.inl (x8, (x4 + (1 : Int32)), M6))) fun j67 =>
    if b7 = true then
      if x3 = a1 then
        some (.inr (.inl (x4, M6)))
      else
        j67 (x3 + (1 : Int32))
    else
      j67 x3
def b_X11_rests_1 (F : Nat) (a1 : Int32) : (Int32 × Int32 × mm) → Option ((Int32 × Int32 × mm) ⊕ ((Int32 × mm) ⊕ (Int32 × mm))) := fun z => b_X11_rests_1c F a1 z.1 z.2.1 z.2.2
def m_X11_rests (F : Nat) (a1 : Int32) (M : mm) : Option (Int32 × mm) :=
  if (-1 : Int32) ≤ a1 then
    cv (m_X10_look F (M.2.2 12 0 6) 7 M) fun M1 =>
    cv (m_X10_fillGains F M1) fun M2 =>
    bd (lp (b_X11_rests_1 F a1) F ((0 : Int32), (0 : Int32), M2))
      (Sum.elim
        (fun z => match z with
          | (x9, M10) =>
            some (x9, M10))
        (fun z => match z with
          | (x11, M12) =>
            if a1 = (-1 : Int32) then
              some (x11, M12)
            else
              some ((-1 : Int32), M12)))
  else
    some ((-1 : Int32), M)
def m_X11_gains (F : Nat) (a1 : Int32) (a2 : Int32) (M : mm) : Option (Int32 × mm) :=
  nm (fun (z : Unit) => match z with
    | () =>
      none) fun j32 =>
  if a1 < (0 : Int32) then
    j32 ()
  else if (M.1 1 (M.2.2 12 0 6) 0) ≤ a1 then
    j32 ()
  else if a2 < (0 : Int32) then
    j32 ()
  else if a2 < ((1 : Int32) <<< ((M.1 1 (M.2.2 12 0 6) 0) &&& 31)) then
    cv (m_X10_look F (M.2.2 12 0 6) 7 M) fun M1 =>
    cv (m_X10_choose F a2 M1) fun M2 =>
    cl (m_X10_gainOf F a1 a2 M2) fun x4 M3 =>
    some (x4, M3)
  else
    j32 ()
def m_X7_draw (F : Nat) (M : mm) : Option (Int32 × mm) :=
  nm (sI M 8 0 11 ((((M.1 8 0 11) * (1103515245 : Int32)) + (12345 : Int32)) &&& (2147483647 : Int32))) fun M1 =>
  some ((((M1.1 8 0 11) / (65536 : Int32)) - ((M1.1 8 0 11) / (65536 : Int32)) / (10 : Int32) * (10 : Int32)), M1)
def b_X7_firstOf_1c (F : Nat) (a1 : Int32) (x1 : Int32) : Option ((Int32) ⊕ ((Int32) ⊕ (Unit))) :=
  if (10 : Int32) ≤ x1 then
    some (.inr (.inr ()))
  else if ((a1 >>> (x1 &&& 31)) &&& (1 : Int32)) = (0 : Int32) then
    some (.inl (x1 + (1 : Int32)))
  else
    some (.inr (.inl x1))
def b_X7_firstOf_1 (F : Nat) (a1 : Int32) : (Int32) → Option ((Int32) ⊕ ((Int32) ⊕ (Unit))) := fun z => b_X7_firstOf_1c F a1 z
def m_X7_firstOf (F : Nat) (a1 : Int32) (M : mm) : Option (Int32 × mm) :=
  bd (lp (b_X7_firstOf_1 F a1) F (0 : Int32))
    (Sum.elim
      (fun x2 =>
        some (x2, M))
      (fun z => match z with
        | () =>
          some ((-1 : Int32), M)))
def m_X7_liveOne (F : Nat) (a1 : Nat) (a2 : Int32) (M : mm) : Option (mm) :=
  nm (M.1 5 2 3) fun x1 =>
  cl (m_X7_draw F M) fun x3 M2 =>
  gi a2 6 <|
  bd (
    if x3 < (M2.1 21 a1 (Int32.toNatClampNeg a2)) then
      if x3 = (0 : Int32) then
        gi a2 6 <|
        cl (m_X7_firstOf F ((M2.1 23 a1 (Int32.toNatClampNeg a2)) &&& (M2.1 5 2 1)) M2) fun x5 M4 =>
        cb (m_X1_pardon F a1 2 x5 M4) fun b7 M6 =>
        some M6
      else
        some M2
    else
      gi a2 6 <|
      nm (((M2.1 23 a1 (Int32.toNatClampNeg a2)) &&& ((M2.1 1 a1 12) ^^^ (-1 : Int32))) &&& ((M2.1 5 2 1) ^^^ (-1 : Int32))) fun x8 =>
      cl (m_X7_firstOf F x8 M2) fun x10 M9 =>
      cb (m_X1_crack F a1 2 x10 M9) fun b12 M11 =>
      bd (
        if b12 = true then
          some (1 : Int32)
        else
          some (0 : Int32)
      ) (fun x13 =>
          nm (sI M11 8 0 9 ((M2.1 8 0 9) + x13)) fun M14 =>
          some M14)
  ) (fun M15 =>
      cl (m_J6_bitCount_0f7a4 F (x1 &&& ((M15.1 5 2 3) ^^^ (-1 : Int32))) M15) fun x17 M16 =>
      nm (sI M16 8 0 10 ((M15.1 8 0 10) + x17)) fun M18 =>
      some M18)
def b_X7_live_2c (F : Nat) (a1 : Nat) (x7 : Int32) (M8 : mm) : Option ((Int32 × mm) ⊕ (mm)) :=
  if (M8.1 1 a1 0) ≤ x7 then
    some (.inr M8)
  else
    cv (m_X7_liveOne F a1 x7 M8) fun M9 =>
    some (.inl ((x7 + (1 : Int32)), M9))
def b_X7_live_2 (F : Nat) (a1 : Nat) : (Int32 × mm) → Option ((Int32 × mm) ⊕ (mm)) := fun z => b_X7_live_2c F a1 z.1 z.2
def b_X7_live_3c (F : Nat) (a1 : Nat) (x16 : Int32) (M17 : mm) : Option ((Int32 × mm) ⊕ (mm)) :=
  if (M17.1 1 a1 13) ≤ x16 then
    some (.inr M17)
  else
    cb (m_X1_lift F a1 2 x16 M17) fun b19 M18 =>
    some (.inl ((x16 + (1 : Int32)), M18))
def b_X7_live_3 (F : Nat) (a1 : Nat) : (Int32 × mm) → Option ((Int32 × mm) ⊕ (mm)) := fun z => b_X7_live_3c F a1 z.1 z.2
def b_X7_live_1c (F : Nat) (a1 : Nat) (a4 : Int32) (x5 : Int32) (M6 : mm) : Option ((Int32 × mm) ⊕ (mm)) :=
  if a4 ≤ x5 then
    some (.inr M6)
  else
    bd (lp (b_X7_live_2 F a1) F ((0 : Int32), M6))
      (fun M10 =>
        nm (M10.1 5 2 3) fun x11 =>
        cv (m_X1_pass F a1 2 M10) fun M12 =>
        cl (m_J6_bitCount_0f7a4 F (x11 &&& ((M12.1 5 2 3) ^^^ (-1 : Int32))) M12) fun x14 M13 =>
        nm (sI M13 8 0 10 ((M12.1 8 0 10) + x14)) fun M15 =>
        bd (lp (b_X7_live_3 F a1) F ((0 : Int32), M15))
          (fun M20 =>
            some (.inl ((x5 + (1 : Int32)), M20))))
def b_X7_live_1 (F : Nat) (a1 : Nat) (a4 : Int32) : (Int32 × mm) → Option ((Int32 × mm) ⊕ (mm)) := fun z => b_X7_live_1c F a1 a4 z.1 z.2
def m_X7_live (F : Nat) (a1 : Nat) (a2 : Nat) (a3 : Int32) (a4 : Int32) (M : mm) : Option (mm) :=
  cv (m_X4_copy F 2 a2 M) fun M1 =>
  nm (sI M1 8 0 11 a3) fun M2 =>
  nm (sI M2 8 0 9 (0 : Int32)) fun M3 =>
  nm (sI M3 8 0 10 (0 : Int32)) fun M4 =>
  bd (lp (b_X7_live_1 F a1 a4) F ((0 : Int32), M4))
    (fun M21 =>
      nm (sI M21 8 0 8 (M21.1 5 2 3)) fun M22 =>
      some M22)
def m_X11_centuries (F : Nat) (a1 : Int32) (a2 : Int32) (a3 : Int32) (M : mm) : Option (Int32 × mm) :=
  if a1 < (0 : Int32) then
    some ((-1 : Int32), M)
  else if (9999 : Int32) < a1 then
    some ((-1 : Int32), M)
  else if a2 < (1 : Int32) then
    some ((-1 : Int32), M)
  else if (100 : Int32) < a2 then
    some ((-1 : Int32), M)
  else if a3 < (0 : Int32) then
    some ((-1 : Int32), M)
  else if a3 ≤ (2 : Int32) then
    cv (m_X7_live F (M.2.2 12 0 6) 7 a1 a2 M) fun M1 =>
    if a3 = (0 : Int32) then
      some ((M1.1 8 0 9), M1)
    else if a3 = (1 : Int32) then
      some ((M1.1 8 0 10), M1)
    else
      some ((M1.1 8 0 8), M1)
  else
    some ((-1 : Int32), M)
def m_X8_copy (F : Nat) (o : Nat) (a1 : Nat) (M : mm) : Option (mm) :=
  cv (m_X8_copyLife F o a1 M) fun M1 =>
  nm (sI M1 9 o 3 (M1.1 9 a1 3)) fun M2 =>
  nm (sI M2 9 o 4 (M2.1 9 a1 4)) fun M3 =>
  nm (sI M3 9 o 5 (M3.1 9 a1 5)) fun M4 =>
  some M4
def m_X11_mark (F : Nat) (a1 : Int32) (a2 : Int32) (M : mm) : Option (Bool × mm) :=
  if a1 < (0 : Int32) then
    some (false, M)
  else if a1 < (4 : Int32) then
    if a2 = (0 : Int32) then
      gi a1 4 <|
      cv (m_X4_copy F (25 + Int32.toNatClampNeg a1) 7 M) fun M4 =>
      gi a1 4 <|
      cv (m_X8_copy F (2 + Int32.toNatClampNeg a1) 0 M4) fun M5 =>
      nm (sI M5 12 0 17 ((M5.1 12 0 17) ||| ((1 : Int32) <<< (a1 &&& 31)))) fun M6 =>
      some (true, M6)
    else if (((M.1 12 0 17) >>> (a1 &&& 31)) &&& (1 : Int32)) = (0 : Int32) then
      some (false, M)
    else
      gi a1 4 <|
      cv (m_X4_copy F 7 (25 + Int32.toNatClampNeg a1) M) fun M1 =>
      gi a1 4 <|
      cv (m_X8_copy F 0 (2 + Int32.toNatClampNeg a1) M1) fun M2 =>
      nm (sI M2 12 0 14 (0 : Int32)) fun M3 =>
      some (true, M3)
  else
    some (false, M)
def b_X0_pairs_1c (F : Nat) (o : Nat) (M : mm) (x1 : Int32) (x2 : Int32) : Option ((Int32 × Int32) ⊕ (Int32)) :=
  if (M.1 1 o 5) ≤ x2 then
    some (.inr x1)
  else
    gi x2 10 <|
    bd (
      if (M.1 28 o (Int32.toNatClampNeg x2)) ≤ x2 then
        some (0 : Int32)
      else
        some (1 : Int32)
    ) (fun x3 =>
        nm (x1 + x3) fun x4 =>
        some (.inl (x4, (x2 + (1 : Int32)))))
def b_X0_pairs_1 (F : Nat) (o : Nat) (M : mm) : (Int32 × Int32) → Option ((Int32 × Int32) ⊕ (Int32)) := fun z => b_X0_pairs_1c F o M z.1 z.2
def m_X0_pairs (F : Nat) (o : Nat) (M : mm) : Option (Int32 × mm) :=
  bd (lp (b_X0_pairs_1 F o M) F ((0 : Int32), (0 : Int32)))
    (fun x5 =>
      some (x5, M))
def b_X0_clashes_1c (F : Nat) (o : Nat) (x1 : Int32) (x2 : Int32) (M3 : mm) : Option ((Int32 × Int32 × mm) ⊕ (Int32 × mm)) :=
  if (M3.1 1 o 5) ≤ x2 then
    some (.inr (x1, M3))
  else
    gi x2 10 <|
    cl (m_J6_bitCount_0f7a4 F ((M3.1 29 o (Int32.toNatClampNeg x2)) >>> (x2 &&& 31)) M3) fun x5 M4 =>
    nm (x1 + x5) fun x6 =>
    some (.inl (x6, (x2 + (1 : Int32)), M4))
def b_X0_clashes_1 (F : Nat) (o : Nat) : (Int32 × Int32 × mm) → Option ((Int32 × Int32 × mm) ⊕ (Int32 × mm)) := fun z => b_X0_clashes_1c F o z.1 z.2.1 z.2.2
def m_X0_clashes (F : Nat) (o : Nat) (M : mm) : Option (Int32 × mm) :=
  bd (lp (b_X0_clashes_1 F o) F ((0 : Int32), (0 : Int32), M))
    (fun z => match z with
      | (x7, M8) =>
        some (x7, M8))
def m_X11_count (F : Nat) (a1 : Int32) (M : mm) : Option (Int32 × mm) :=
  if a1 = (0 : Int32) then
    some ((M.1 1 (M.2.2 12 0 6) 0), M)
  else if a1 = (1 : Int32) then
    some ((M.1 1 (M.2.2 12 0 6) 5), M)
  else if a1 = (2 : Int32) then
    some ((M.1 1 (M.2.2 12 0 6) 13), M)
  else if a1 = (3 : Int32) then
    some ((M.1 5 7 0), M)
  else if a1 = (4 : Int32) then
    cl (m_J6_bitCount_0f7a4 F (M.1 5 7 1) M) fun x2 M1 =>
    some (x2, M1)
  else if a1 = (5 : Int32) then
    cl (m_J6_bitCount_0f7a4 F (M.1 5 7 3) M) fun x4 M3 =>
    some (x4, M3)
  else if a1 = (6 : Int32) then
    cl (m_X0_weightOf F (M.2.2 12 0 6) (M.1 5 7 3) M) fun x6 M5 =>
    some (x6, M5)
  else if a1 = (7 : Int32) then
    some ((M.1 9 0 0), M)
  else if a1 = (8 : Int32) then
    some ((M.1 9 0 3), M)
  else if a1 = (9 : Int32) then
    cl (m_X0_pairs F (M.2.2 12 0 6) M) fun x8 M7 =>
    some (x8, M7)
  else if a1 = (10 : Int32) then
    cl (m_X0_clashes F (M.2.2 12 0 6) M) fun x10 M9 =>
    some (x10, M9)
  else if a1 = (11 : Int32) then
    some ((M.1 12 0 14), M)
  else if a1 = (12 : Int32) then
    some ((M.1 7 0 2), M)
  else
    some ((-1 : Int32), M)
def m_X12_thrown (F : Nat) (M : mm) : Option (Int32 × mm) :=
  some ((M.1 13 0 0), M)
def m_X12_within (F : Nat) (a1 : Int32) (a2 : Int32) (a3 : Int32) (M : mm) : Option (Bool × mm) :=
  if a1 < a2 then
    some (false, M)
  else if a3 < a1 then
    some (false, M)
  else
    some (true, M)
def m_X12_between (F : Nat) (a1 : Int32) (a2 : Int32) (a3 : Int32) (M : mm) : Option (Int32 × mm) :=
  if a2 ≤ a1 then
    if a1 ≤ a3 then
      some (a1, M)
    else
      some (a3, M)
  else
    some (a2, M)
def b_X12_bits_1c (F : Nat) (a1 : Int32) (x1 : Int32) (x2 : Int32) : Option ((Int32 × Int32) ⊕ (Int32)) :=
  if (11 : Int32) ≤ x2 then
    some (.inr x1)
  else
    nm (x1 + ((a1 >>> (x2 &&& 31)) &&& (1 : Int32))) fun x3 =>
    some (.inl (x3, (x2 + (1 : Int32))))
def b_X12_bits_1 (F : Nat) (a1 : Int32) : (Int32 × Int32) → Option ((Int32 × Int32) ⊕ (Int32)) := fun z => b_X12_bits_1c F a1 z.1 z.2
def m_X12_bits (F : Nat) (a1 : Int32) (M : mm) : Option (Int32 × mm) :=
  bd (lp (b_X12_bits_1 F a1) F ((0 : Int32), (0 : Int32)))
    (fun x4 =>
      some (x4, M))
def b_X12_feed_1c (F : Nat) (a1 : Int64) (a2 : Int64) (a3 : Int64) (x2 : Int32) (M3 : mm) : Option ((Int32 × mm) ⊕ (mm)) :=
  if (24 : Int32) ≤ x2 then
    some (.inr M3)
  else
    bd (
      if (8 : Int32) ≤ x2 then
        if (16 : Int32) ≤ x2 then
          some a3
        else
          some a2
      else
        some a1
    ) (fun x4 =>
        nm (Int64.toInt32 (((Int64.toUInt64 x4) >>> ((Int32.toInt64 ((56 : Int32) - ((8 : Int32) * (x2 &&& (7 : Int32))))).toUInt64 &&& Int64.toUInt64 63)).toInt64 &&& (255 : Int64))) fun x5 =>
        bd (
          if (1000 : Int32) ≤ (M3.1 13 0 1) then
            some M3
          else
            nm (fun (z : Unit) => match z with
              | () =>
                gi (M3.1 13 0 1) 1000 <|
                nm (sI M3 63 0 (Int32.toNatClampNeg (M3.1 13 0 1)) x5) fun M6 =>
                nm (sI M6 13 0 1 ((M6.1 13 0 1) + (1 : Int32))) fun M7 =>
                some M7) fun j93 =>
            if x5 = (10 : Int32) then
              j93 ()
            else if x5 < (32 : Int32) then
              some M3
            else if (126 : Int32) < x5 then
              some M3
            else
              j93 ()
        ) (fun M8 =>
            some (.inl ((x2 + (1 : Int32)), M8))))
def b_X12_feed_1 (F : Nat) (a1 : Int64) (a2 : Int64) (a3 : Int64) : (Int32 × mm) → Option ((Int32 × mm) ⊕ (mm)) := fun z => b_X12_feed_1c F a1 a2 a3 z.1 z.2
def m_X12_feed (F : Nat) (a1 : Int64) (a2 : Int64) (a3 : Int64) (M : mm) : Option (Int32 × mm) :=
  nm (sI M 13 0 0 (0 : Int32)) fun M1 =>
  bd (lp (b_X12_feed_1 F a1 a2 a3) F ((0 : Int32), M1))
    (fun M9 =>
      some ((M9.1 13 0 1), M9))
def m_X12_signAt (F : Nat) (a1 : Int32) (M : mm) : Option (Int32 × mm) :=
  if (M.1 13 0 3) ≤ a1 then
    some ((0 : Int32), M)
  else
    gi a1 1000 <|
    some ((M.1 63 0 (Int32.toNatClampNeg a1)), M)
def b_X12_nextToken_1c (F : Nat) (M1 : mm) : Option ((mm) ⊕ (mm)) :=
  if (M1.1 13 0 3) ≤ (M1.1 13 0 4) then
    some (.inr M1)
  else
    gi (M1.1 13 0 4) 1000 <|
    nm (fun (z : Unit) => match z with
      | () =>
        nm (sI M1 13 0 4 ((M1.1 13 0 4) + (1 : Int32))) fun M2 =>
        some (.inl M2)) fun j39 =>
    if (M1.1 63 0 (Int32.toNatClampNeg (M1.1 13 0 4))) = (32 : Int32) then
      j39 ()
    else
      gi (M1.1 13 0 4) 1000 <|
      if (M1.1 63 0 (Int32.toNatClampNeg (M1.1 13 0 4))) = (10 : Int32) then
        j39 ()
      else
        some (.inr M1)
def b_X12_nextToken_1 (F : Nat) : (mm) → Option ((mm) ⊕ (mm)) := fun z => b_X12_nextToken_1c F z
def b_X12_nextToken_2c (F : Nat) (M8 : mm) : Option ((mm) ⊕ (mm)) :=
  cl (m_X12_signAt F (M8.1 13 0 4) M8) fun x10 M9 =>
  if x10 < (97 : Int32) then
    some (.inr M9)
  else
    cl (m_X12_signAt F (M9.1 13 0 4) M9) fun x12 M11 =>
    if (122 : Int32) < x12 then
      some (.inr M11)
    else
      bd (
        if (8 : Int32) ≤ ((M11.1 13 0 4) - (M11.1 13 0 5)) then
          some M11
        else
          cl (m_X12_signAt F (M11.1 13 0 4) M11) fun x14 M13 =>
          nm (sL M13 13 0 7 ((((M11.2.1 13 0 7) * (27 : Int64)) + (Int32.toInt64 x14)) - (96 : Int64))) fun M15 =>
          some M15
      ) (fun M16 =>
          nm (sI M16 13 0 4 ((M16.1 13 0 4) + (1 : Int32))) fun M17 =>
          some (.inl M17))
def b_X12_nextToken_2 (F : Nat) : (mm) → Option ((mm) ⊕ (mm)) := fun z => b_X12_nextToken_2c F z
def b_X12_nextToken_3c (F : Nat) (M21 : mm) : Option ((mm) ⊕ (mm)) :=
  cl (m_X12_signAt F (M21.1 13 0 4) M21) fun x23 M22 =>
  if x23 < (48 : Int32) then
    some (.inr M22)
  else
    cl (m_X12_signAt F (M22.1 13 0 4) M22) fun x25 M24 =>
    if (57 : Int32) < x25 then
      some (.inr M24)
    else
      bd (
        if (4 : Int32) ≤ ((M24.1 13 0 4) - (M24.1 13 0 5)) then
          some M24
        else
          cl (m_X12_signAt F (M24.1 13 0 4) M24) fun x27 M26 =>
          nm (sI M26 13 0 8 ((((M24.1 13 0 8) * (10 : Int32)) + x27) - (48 : Int32))) fun M28 =>
          some M28
      ) (fun M29 =>
          nm (sI M29 13 0 4 ((M29.1 13 0 4) + (1 : Int32))) fun M30 =>
          some (.inl M30))
def b_X12_nextToken_3 (F : Nat) : (mm) → Option ((mm) ⊕ (mm)) := fun z => b_X12_nextToken_3c F z
def m_X12_nextToken (F : Nat) (M : mm) : Option (mm) :=
  bd (lp (b_X12_nextToken_1 F) F M)
    (fun M3 =>
      nm (sI M3 13 0 5 (M3.1 13 0 4)) fun M4 =>
      nm (sL M4 13 0 7 (0 : Int64)) fun M5 =>
      nm (sI M5 13 0 8 (0 : Int32)) fun M6 =>
      if (M6.1 13 0 4) = (M6.1 13 0 3) then
        nm (sI M6 13 0 6 (0 : Int32)) fun M37 =>
        some M37
      else
        gi (M6.1 13 0 4) 1000 <|
        nm (M6.1 63 0 (Int32.toNatClampNeg (M6.1 13 0 4))) fun x7 =>
        nm (fun (z : Unit) => match z with
          | () =>
            nm (fun (z : Unit) => match z with
              | () =>
                nm (sI M6 13 0 4 ((M6.1 13 0 4) + (1 : Int32))) fun M34 =>
                bd (
                  nm (fun (z : Unit) => match z with
                    | () =>
                      some (3 : Int32)) fun j363 =>
                  nm (fun (z : Unit) => match z with
                    | () =>
                      if x7 = (45 : Int32) then
                        j363 ()
                      else
                        nm (fun (z : Unit) => match z with
                          | () =>
                            some (4 : Int32)) fun j367 =>
                        if x7 < (59 : Int32) then
                          j367 ()
                        else if (61 : Int32) < x7 then
                          j367 ()
                        else
                          j363 ()) fun j345 =>
                  if x7 < (40 : Int32) then
                    j345 ()
                  else if x7 ≤ (43 : Int32) then
                    j363 ()
                  else
                    j345 ()
                ) (fun x35 =>
                    nm (sI M34 13 0 6 x35) fun M36 =>
                    some M36)) fun j322 =>
            if x7 < (48 : Int32) then
              j322 ()
            else if (57 : Int32) < x7 then
              j322 ()
            else
              bd (lp (b_X12_nextToken_3 F) F M6)
                (fun M31 =>
                  bd (
                    if ((M31.1 13 0 4) - (M31.1 13 0 5)) ≤ (4 : Int32) then
                      some (2 : Int32)
                    else
                      some (4 : Int32)
                  ) (fun x32 =>
                      nm (sI M31 13 0 6 x32) fun M33 =>
                      some M33))) fun j212 =>
        if x7 < (97 : Int32) then
          j212 ()
        else if (122 : Int32) < x7 then
          j212 ()
        else
          bd (lp (b_X12_nextToken_2 F) F M6)
            (fun M18 =>
              bd (
                if ((M18.1 13 0 4) - (M18.1 13 0 5)) ≤ (8 : Int32) then
                  some (1 : Int32)
                else
                  some (4 : Int32)
              ) (fun x19 =>
                  nm (sI M18 13 0 6 x19) fun M20 =>
                  some M20)))
def m_X12_isWord (F : Nat) (a1 : Int64) (M : mm) : Option (Bool × mm) :=
  if (M.1 13 0 6) = (1 : Int32) then
    if (lg_cmp (M.2.1 13 0 7) a1) = (0 : Int32) then
      some (true, M)
    else
      some (false, M)
  else
    some (false, M)
def m_X12_isSign (F : Nat) (a1 : Int32) (M : mm) : Option (Bool × mm) :=
  if (M.1 13 0 6) = (3 : Int32) then
    gi (M.1 13 0 5) 1000 <|
    if (M.1 63 0 (Int32.toNatClampNeg (M.1 13 0 5))) = a1 then
      some (true, M)
    else
      some (false, M)
  else
    some (false, M)
def m_X12_fails (F : Nat) (a1 : Int32) (M : mm) : Option (Bool × mm) :=
  nm (sI M 13 0 9 (a1 + ((16 : Int32) * (M.1 13 0 5)))) fun M1 =>
  some (false, M1)
def b_X12_plain_1c (F : Nat) (a1 : Int32) (x1 : Int32) (M2 : mm) : Option ((Int32 × mm) ⊕ (mm)) :=
  if (6 : Int32) ≤ x1 then
    some (.inr M2)
  else
    gi (((6 : Int32) * a1) + x1) 12 <|
    nm (sI M2 64 0 (Int32.toNatClampNeg (((6 : Int32) * a1) + x1)) (0 : Int32)) fun M3 =>
    some (.inl ((x1 + (1 : Int32)), M3))
def b_X12_plain_1 (F : Nat) (a1 : Int32) : (Int32 × mm) → Option ((Int32 × mm) ⊕ (mm)) := fun z => b_X12_plain_1c F a1 z.1 z.2
def m_X12_plain (F : Nat) (a1 : Int32) (M : mm) : Option (mm) :=
  bd (lp (b_X12_plain_1 F a1) F ((0 : Int32), M))
    (fun M4 =>
      gi (((6 : Int32) * a1) + (3 : Int32)) 12 <|
      nm (sI M4 64 0 (Int32.toNatClampNeg (((6 : Int32) * a1) + (3 : Int32))) (5 : Int32)) fun M5 =>
      gi a1 2 <|
      nm (sI M5 79 0 (Int32.toNatClampNeg a1) ((1000 : Int32) * a1)) fun M6 =>
      gi a1 2 <|
      nm (sI M6 80 0 (Int32.toNatClampNeg a1) ((1000 : Int32) * a1)) fun M7 =>
      some M7)
def m_X12_puts (F : Nat) (a1 : Int32) (M : mm) : Option (mm) :=
  gi (M.1 13 0 28) 2000 <|
  nm (sI M 81 0 (Int32.toNatClampNeg (M.1 13 0 28)) a1) fun M1 =>
  nm (sI M1 13 0 28 ((M1.1 13 0 28) + (1 : Int32))) fun M2 =>
  some M2
def m_X12_fact (F : Nat) (M : mm) : Option (Int32 × mm) :=
  if (M.1 13 0 6) = (1 : Int32) then
    if (lg_cmp (M.2.1 13 0 7) (40613 : Int64)) = (0 : Int32) then
      some ((1 : Int32), M)
    else if (lg_cmp (M.2.1 13 0 7) (13385674 : Int64)) = (0 : Int32) then
      some ((2 : Int32), M)
    else if (lg_cmp (M.2.1 13 0 7) (223456 : Int64)) = (0 : Int32) then
      some ((3 : Int32), M)
    else if (lg_cmp (M.2.1 13 0 7) (778955 : Int64)) = (0 : Int32) then
      some ((4 : Int32), M)
    else
      some ((0 : Int32), M)
  else
    some ((0 : Int32), M)
def b_X12_reads_2c (F : Nat) (M28 : mm) (x29 : Int32) : Option ((Int32) ⊕ (Int32)) :=
  if x29 ≤ (0 : Int32) then
    some (.inr x29)
  else
    gi x29 7 <|
    if (M28.1 82 0 (Int32.toNatClampNeg x29)) = (1 : Int32) then
      some (.inl (x29 + (-1 : Int32)))
    else
      some (.inr x29)
def b_X12_reads_2 (F : Nat) (M28 : mm) : (Int32) → Option ((Int32) ⊕ (Int32)) := fun z => b_X12_reads_2c F M28 z
def b_X12_reads_3c (F : Nat) (M56 : mm) (x57 : Int32) : Option ((Int32) ⊕ (Int32)) :=
  if x57 ≤ (0 : Int32) then
    some (.inr x57)
  else
    gi x57 7 <|
    if (M56.1 82 0 (Int32.toNatClampNeg x57)) = (1 : Int32) then
      some (.inl (x57 + (-1 : Int32)))
    else
      some (.inr x57)
def b_X12_reads_3 (F : Nat) (M56 : mm) : (Int32) → Option ((Int32) ⊕ (Int32)) := fun z => b_X12_reads_3c F M56 z
def b_X12_reads_1c (F : Nat) (x2 : Int32) (x3 : Int32) (M4 : mm) : Option ((Int32 × Int32 × mm) ⊕ ((mm) ⊕ (mm) ⊕ (Int32 × mm))) :=
  if x3 = (0 : Int32) then
    cb (m_X12_isSign F (43 : Int32) M4) fun b6 M5 =>
    nm (fun (z : Int32 × Int32 × mm) => match z with
      | (x45, x46, M47) =>
        cv (m_X12_nextToken F M47) fun M48 =>
        some (.inl (x45, x46, M48))) fun j424 =>
    nm (fun (M37 : mm) =>
      cb (m_X12_isSign F (43 : Int32) M37) fun b39 M38 =>
      bd (
        if b39 = true then
          some ((20 : Int32), M38)
        else
          cb (m_X12_isSign F (45 : Int32) M38) fun b41 M40 =>
          if b41 = true then
            some ((21 : Int32), M40)
          else
            some ((22 : Int32), M40)
      ) (fun z => match z with
          | (x42, M43) =>
            cv (m_X12_puts F x42 M43) fun M44 =>
            j424 (x2, (1 : Int32), M44))) fun j206 =>
    if b6 = true then
      j206 M5
    else
      cb (m_X12_isSign F (45 : Int32) M5) fun b8 M7 =>
      if b8 = true then
        j206 M7
      else
        cb (m_X12_isSign F (42 : Int32) M7) fun b10 M9 =>
        if b10 = true then
          j206 M9
        else
          cb (m_X12_isSign F (60 : Int32) M9) fun b12 M11 =>
          nm (fun (M21 : mm) =>
            cb (m_X12_isWord F (1111 : Int64) M21) fun b23 M22 =>
            nm (fun (M31 : mm) =>
              cb (m_X12_isWord F (1111 : Int64) M31) fun b33 M32 =>
              bd (
                if b33 = true then
                  some (26 : Int32)
                else
                  some (27 : Int32)
              ) (fun x34 =>
                  cv (m_X12_puts F x34 M32) fun M35 =>
                  gi x2 7 <|
                  nm (sI M35 83 0 (Int32.toNatClampNeg x2) (vp_nar .boolean (0 : Int32))) fun M36 =>
                  j424 (x2, (1 : Int32), M36))) fun j324 =>
            if b23 = true then
              j324 M22
            else
              cb (m_X12_isWord F (423 : Int64) M22) fun b25 M24 =>
              if b25 = true then
                j324 M24
              else
                cb (m_X12_isSign F (41 : Int32) M24) fun b27 M26 =>
                if b27 = true then
                  if x2 ≤ (0 : Int32) then
                    some (.inr (.inr (.inr (x2, M26))))
                  else
                    cv (m_X12_puts F (29 : Int32) M26) fun M28 =>
                    bd (lp (b_X12_reads_2 F M28) F (x2 + (-1 : Int32)))
                      (fun x30 =>
                        j424 (x30, x3, M28))
                else
                  some (.inr (.inr (.inr (x2, M26))))) fun j304 =>
          nm (fun (M15 : mm) =>
            gi x2 7 <|
            if (M15.1 83 0 (Int32.toNatClampNeg x2)) = (0 : Int32) then
              cb (m_X12_isSign F (60 : Int32) M15) fun b17 M16 =>
              bd (
                if b17 = true then
                  some (24 : Int32)
                else
                  some (25 : Int32)
              ) (fun x18 =>
                  cv (m_X12_puts F x18 M16) fun M19 =>
                  gi x2 7 <|
                  nm (sI M19 83 0 (Int32.toNatClampNeg x2) (vp_nar .boolean (1 : Int32))) fun M20 =>
                  j424 (x2, (1 : Int32), M20))
            else
              j304 M15) fun j263 =>
          if b12 = true then
            j263 M11
          else
            cb (m_X12_isSign F (61 : Int32) M11) fun b14 M13 =>
            if b14 = true then
              j263 M13
            else
              j304 M13
  else
    cl (m_X12_fact F M4) fun x50 M49 =>
    cb (m_X12_isWord F (10631 : Int64) M49) fun b52 M51 =>
    cb (m_X12_isSign F (40 : Int32) M51) fun b54 M53 =>
    nm (fun (z : Unit) => match z with
      | () =>
        if x2 = (5 : Int32) then
          some (.inr (.inr (.inl M53)))
        else
          bd (
            nm (fun (z : Unit) => match z with
              | () =>
                bd (
                  if b52 = true then
                    some (30 : Int32)
                  else
                    some (28 : Int32)
                ) (fun x59 =>
                    cv (m_X12_puts F x59 M53) fun M60 =>
                    bd (
                      if b52 = true then
                        some (1 : Int32)
                      else
                        some (2 : Int32)
                    ) (fun x61 =>
                        gi (x2 + (1 : Int32)) 7 <|
                        nm (sI M60 82 0 (Int32.toNatClampNeg (x2 + (1 : Int32))) x61) fun M62 =>
                        gi (x2 + (1 : Int32)) 7 <|
                        nm (sI M62 83 0 (Int32.toNatClampNeg (x2 + (1 : Int32))) (vp_nar .boolean (0 : Int32))) fun M63 =>
                        some ((x2 + (1 : Int32)), x3, M63)))) fun j86 =>
            if b52 = true then
              j86 ()
            else if b54 = true then
              j86 ()
            else
              bd (
                if x50 ≤ (0 : Int32) then
                  some ((100 : Int32) + (M53.1 13 0 8))
                else
                  some x50
              ) (fun x55 =>
                  cv (m_X12_puts F x55 M53) fun M56 =>
                  bd (lp (b_X12_reads_3 F M56) F x2)
                    (fun x58 =>
                      some (x58, (0 : Int32), M56)))
          ) (fun z => match z with
              | (x64, x65, M66) =>
                cv (m_X12_nextToken F M66) fun M67 =>
                some (.inl (x64, x65, M67)))) fun j65 =>
    if x50 = (0 : Int32) then
      if b52 = true then
        j65 ()
      else if b54 = true then
        j65 ()
      else if (M53.1 13 0 6) = (2 : Int32) then
        j65 ()
      else
        some (.inr (.inl M53))
    else
      j65 ()
def b_X12_reads_1 (F : Nat) : (Int32 × Int32 × mm) → Option ((Int32 × Int32 × mm) ⊕ ((mm) ⊕ (mm) ⊕ (Int32 × mm))) := fun z => b_X12_reads_1c F z.1 z.2.1 z.2.2
def m_X12_reads (F : Nat) (M : mm) : Option (Bool × mm) :=
  gi (0 : Int32) 7 <|
  nm (sI M 83 0 (Int32.toNatClampNeg (0 : Int32)) (vp_nar .boolean (0 : Int32))) fun M1 =>
  bd (lp (b_X12_reads_1 F) F ((0 : Int32), (1 : Int32), M1))
    (Sum.elim
      (fun M68 =>
        cb (m_X12_fails F (1 : Int32) M68) fun b70 M69 =>
        some (b70, M69))
      (Sum.elim
        (fun M71 =>
          cb (m_X12_fails F (5 : Int32) M71) fun b73 M72 =>
          some (b73, M72))
        (fun z => match z with
          | (x74, M75) =>
            nm (fun (M79 : mm) =>
              cb (m_X12_fails F (1 : Int32) M79) fun b81 M80 =>
              some (b81, M80)) fun j418 =>
            if x74 = (0 : Int32) then
              cb (m_X12_isSign F (59 : Int32) M75) fun b77 M76 =>
              if b77 = true then
                cv (m_X12_nextToken F M76) fun M78 =>
                some (true, M78)
              else
                j418 M76
            else
              j418 M75)))
def m_X12_opens (F : Nat) (a1 : Int32) (M : mm) : Option (mm) :=
  gi a1 7 <|
  nm (sI M 85 0 (Int32.toNatClampNeg a1) (0 : Int32)) fun M1 =>
  gi a1 7 <|
  nm (sI M1 87 0 (Int32.toNatClampNeg a1) (0 : Int32)) fun M2 =>
  gi a1 7 <|
  nm (sI M2 88 0 (Int32.toNatClampNeg a1) (0 : Int32)) fun M3 =>
  gi a1 7 <|
  nm (sI M3 89 0 (Int32.toNatClampNeg a1) (20 : Int32)) fun M4 =>
  gi a1 7 <|
  nm (sI M4 91 0 (Int32.toNatClampNeg a1) (0 : Int32)) fun M5 =>
  some M5
def m_X12_sums (F : Nat) (a1 : Int32) (M : mm) : Option (mm) :=
  gi a1 7 <|
  bd (
    if (M.1 89 0 (Int32.toNatClampNeg a1)) = (21 : Int32) then
      gi a1 7 <|
      gi a1 7 <|
      some ((M.1 88 0 (Int32.toNatClampNeg a1)) - (M.1 90 0 (Int32.toNatClampNeg a1)))
    else
      gi a1 7 <|
      gi a1 7 <|
      some ((M.1 88 0 (Int32.toNatClampNeg a1)) + (M.1 90 0 (Int32.toNatClampNeg a1)))
  ) (fun x1 =>
      gi a1 7 <|
      nm (sI M 88 0 (Int32.toNatClampNeg a1) x1) fun M2 =>
      gi a1 7 <|
      nm (sI M2 91 0 (Int32.toNatClampNeg a1) (0 : Int32)) fun M3 =>
      some M3)
def m_X12_tests (F : Nat) (a1 : Int32) (M : mm) : Option (mm) :=
  cv (m_X12_sums F a1 M) fun M1 =>
  gi a1 7 <|
  nm (M1.1 88 0 (Int32.toNatClampNeg a1)) fun x2 =>
  gi a1 7 <|
  bd (
    if (M1.1 87 0 (Int32.toNatClampNeg a1)) = (24 : Int32) then
      gi a1 7 <|
      gi a1 7 <|
      bd (
        if (M1.1 88 0 (Int32.toNatClampNeg a1)) ≤ (M1.1 86 0 (Int32.toNatClampNeg a1)) then
          some (0 : Int32)
        else
          some (1 : Int32)
      ) (fun x3 =>
          some x3)
    else
      some x2
  ) (fun x4 =>
      gi a1 7 <|
      bd (
        if (M1.1 87 0 (Int32.toNatClampNeg a1)) = (25 : Int32) then
          gi a1 7 <|
          gi a1 7 <|
          bd (
            if (M1.1 86 0 (Int32.toNatClampNeg a1)) = (M1.1 88 0 (Int32.toNatClampNeg a1)) then
              some (1 : Int32)
            else
              some (0 : Int32)
          ) (fun x5 =>
              some x5)
        else
          some x4
      ) (fun x6 =>
          gi a1 7 <|
          bd (
            if (M1.1 85 0 (Int32.toNatClampNeg a1)) = (26 : Int32) then
              gi a1 7 <|
              bd (
                nm (fun (z : Unit) => match z with
                  | () =>
                    some (0 : Int32)) fun j104 =>
                if (M1.1 84 0 (Int32.toNatClampNeg a1)) = (0 : Int32) then
                  j104 ()
                else if x6 = (0 : Int32) then
                  j104 ()
                else
                  some (1 : Int32)
              ) (fun x7 =>
                  some x7)
            else
              some x6
          ) (fun x8 =>
              gi a1 7 <|
              bd (
                if (M1.1 85 0 (Int32.toNatClampNeg a1)) = (27 : Int32) then
                  gi a1 7 <|
                  bd (
                    nm (fun (z : Unit) => match z with
                      | () =>
                        some (1 : Int32)) fun j130 =>
                    if (M1.1 84 0 (Int32.toNatClampNeg a1)) = (0 : Int32) then
                      if x8 = (0 : Int32) then
                        some (0 : Int32)
                      else
                        j130 ()
                    else
                      j130 ()
                  ) (fun x9 =>
                      some x9)
                else
                  some x8
              ) (fun x10 =>
                  gi a1 7 <|
                  nm (sI M1 84 0 (Int32.toNatClampNeg a1) x10) fun M11 =>
                  gi a1 7 <|
                  nm (sI M11 87 0 (Int32.toNatClampNeg a1) (0 : Int32)) fun M12 =>
                  gi a1 7 <|
                  nm (sI M12 88 0 (Int32.toNatClampNeg a1) (0 : Int32)) fun M13 =>
                  gi a1 7 <|
                  nm (sI M13 89 0 (Int32.toNatClampNeg a1) (20 : Int32)) fun M14 =>
                  some M14))))
def b_X12_worked_2c (F : Nat) (M12 : mm) (x13 : Int32) (x14 : Int32) : Option ((Int32 × Int32) ⊕ (Int32 × Int32)) :=
  if x13 ≤ (0 : Int32) then
    some (.inr (x13, x14))
  else
    gi x13 7 <|
    if (M12.1 92 0 (Int32.toNatClampNeg x13)) = (1 : Int32) then
      bd (
        if x14 = (0 : Int32) then
          some (1 : Int32)
        else
          some (0 : Int32)
      ) (fun x15 =>
          some (.inl ((x13 + (-1 : Int32)), x15)))
    else
      some (.inr (x13, x14))
def b_X12_worked_2 (F : Nat) (M12 : mm) : (Int32 × Int32) → Option ((Int32 × Int32) ⊕ (Int32 × Int32)) := fun z => b_X12_worked_2c F M12 z.1 z.2
def b_X12_worked_1c (F : Nat) (a1 : Int32) (x3 : Int32) (x4 : Int32) (M5 : mm) : Option ((Int32 × Int32 × mm) ⊕ (mm)) :=
  gi a1 2 <|
  if (M5.1 80 0 (Int32.toNatClampNeg a1)) ≤ x4 then
    some (.inr M5)
  else
    gi x4 2000 <|
    nm (M5.1 81 0 (Int32.toNatClampNeg x4)) fun x6 =>
    bd (
      nm (fun (z : Unit) => match z with
        | () =>
          bd (
            if x6 = (30 : Int32) then
              some (1 : Int32)
            else
              some (0 : Int32)
          ) (fun x30 =>
              gi (x3 + (1 : Int32)) 7 <|
              nm (sI M5 92 0 (Int32.toNatClampNeg (x3 + (1 : Int32))) x30) fun M31 =>
              cv (m_X12_opens F (x3 + (1 : Int32)) M31) fun M32 =>
              some ((x3 + (1 : Int32)), M32))) fun j46 =>
      if x6 = (28 : Int32) then
        j46 ()
      else if x6 = (30 : Int32) then
        j46 ()
      else
        nm (fun (z : Unit) => match z with
          | () =>
            cv (m_X12_sums F x3 M5) fun M28 =>
            gi x3 7 <|
            nm (sI M28 89 0 (Int32.toNatClampNeg x3) x6) fun M29 =>
            some (x3, M29)) fun j89 =>
        if x6 = (20 : Int32) then
          j89 ()
        else if x6 = (21 : Int32) then
          j89 ()
        else if x6 = (22 : Int32) then
          gi x3 7 <|
          nm (sI M5 91 0 (Int32.toNatClampNeg x3) x6) fun M27 =>
          some (x3, M27)
        else
          nm (fun (z : Unit) => match z with
            | () =>
              cv (m_X12_sums F x3 M5) fun M22 =>
              gi x3 7 <|
              gi x3 7 <|
              nm (sI M22 86 0 (Int32.toNatClampNeg x3) (M22.1 88 0 (Int32.toNatClampNeg x3))) fun M23 =>
              gi x3 7 <|
              nm (sI M23 87 0 (Int32.toNatClampNeg x3) x6) fun M24 =>
              gi x3 7 <|
              nm (sI M24 88 0 (Int32.toNatClampNeg x3) (0 : Int32)) fun M25 =>
              gi x3 7 <|
              nm (sI M25 89 0 (Int32.toNatClampNeg x3) (20 : Int32)) fun M26 =>
              some (x3, M26)) fun j137 =>
          if x6 = (24 : Int32) then
            j137 ()
          else if x6 = (25 : Int32) then
            j137 ()
          else
            nm (fun (z : Unit) => match z with
              | () =>
                cv (m_X12_tests F x3 M5) fun M20 =>
                gi x3 7 <|
                nm (sI M20 85 0 (Int32.toNatClampNeg x3) x6) fun M21 =>
                some (x3, M21)) fun j194 =>
            if x6 = (26 : Int32) then
              j194 ()
            else if x6 = (27 : Int32) then
              j194 ()
            else
              bd (
                if x6 < (100 : Int32) then
                  if (20 : Int32) ≤ x6 then
                    some (0 : Int32)
                  else
                    gi x6 20 <|
                    some (M5.1 93 0 (Int32.toNatClampNeg x6))
                else
                  some (x6 - (100 : Int32))
              ) (fun x7 =>
                  bd (
                    if x6 = (29 : Int32) then
                      cv (m_X12_tests F x3 M5) fun M8 =>
                      gi x3 7 <|
                      nm (M8.1 84 0 (Int32.toNatClampNeg x3)) fun x9 =>
                      some ((x3 + (-1 : Int32)), x9, M8)
                    else
                      some (x3, x7, M5)
                  ) (fun z => match z with
                      | (x10, x11, M12) =>
                        bd (lp (b_X12_worked_2 F M12) F (x10, x11))
                          (fun z => match z with
                            | (x16, x17) =>
                              gi x16 7 <|
                              bd (
                                if (M12.1 91 0 (Int32.toNatClampNeg x16)) = (0 : Int32) then
                                  some x17
                                else
                                  gi x16 7 <|
                                  some ((M12.1 90 0 (Int32.toNatClampNeg x16)) * x17)
                              ) (fun x18 =>
                                  gi x16 7 <|
                                  nm (sI M12 90 0 (Int32.toNatClampNeg x16) x18) fun M19 =>
                                  some (x16, M19)))))
    ) (fun z => match z with
        | (x33, M34) =>
          some (.inl (x33, (x4 + (1 : Int32)), M34)))
def b_X12_worked_1 (F : Nat) (a1 : Int32) : (Int32 × Int32 × mm) → Option ((Int32 × Int32 × mm) ⊕ (mm)) := fun z => b_X12_worked_1c F a1 z.1 z.2.1 z.2.2
def m_X12_worked (F : Nat) (a1 : Int32) (M : mm) : Option (Int32 × mm) :=
  cv (m_X12_opens F (0 : Int32) M) fun M1 =>
  gi a1 2 <|
  nm (M1.1 79 0 (Int32.toNatClampNeg a1)) fun x2 =>
  bd (lp (b_X12_worked_1 F a1) F ((0 : Int32), x2, M1))
    (fun M35 =>
      cv (m_X12_tests F (0 : Int32) M35) fun M36 =>
      gi (0 : Int32) 7 <|
      some ((M36.1 84 0 (Int32.toNatClampNeg (0 : Int32))), M36))
def m_X12_isKept (F : Nat) (M : mm) : Option (Bool × mm) :=
  if (M.1 13 0 6) = (1 : Int32) then
    if (lg_cmp (M.2.1 13 0 7) (232608281 : Int64)) = (0 : Int32) then
      some (true, M)
    else if (lg_cmp (M.2.1 13 0 7) (3215438 : Int64)) = (0 : Int32) then
      some (true, M)
    else if (lg_cmp (M.2.1 13 0 7) (10737164 : Int64)) = (0 : Int32) then
      some (true, M)
    else if (lg_cmp (M.2.1 13 0 7) (296522 : Int64)) = (0 : Int32) then
      some (true, M)
    else if (lg_cmp (M.2.1 13 0 7) (79 : Int64)) = (0 : Int32) then
      some (true, M)
    else if (lg_cmp (M.2.1 13 0 7) (1162531 : Int64)) = (0 : Int32) then
      some (true, M)
    else if (lg_cmp (M.2.1 13 0 7) (239882 : Int64)) = (0 : Int32) then
      some (true, M)
    else if (lg_cmp (M.2.1 13 0 7) (1831769 : Int64)) = (0 : Int32) then
      some (true, M)
    else if (lg_cmp (M.2.1 13 0 7) (10502357 : Int64)) = (0 : Int32) then
      some (true, M)
    else if (lg_cmp (M.2.1 13 0 7) (332864551 : Int64)) = (0 : Int32) then
      some (true, M)
    else if (lg_cmp (M.2.1 13 0 7) (358337 : Int64)) = (0 : Int32) then
      some (true, M)
    else if (lg_cmp (M.2.1 13 0 7) (419 : Int64)) = (0 : Int32) then
      some (true, M)
    else if (lg_cmp (M.2.1 13 0 7) (923 : Int64)) = (0 : Int32) then
      some (true, M)
    else if (lg_cmp (M.2.1 13 0 7) (259906 : Int64)) = (0 : Int32) then
      some (true, M)
    else if (lg_cmp (M.2.1 13 0 7) (1420859 : Int64)) = (0 : Int32) then
      some (true, M)
    else if (lg_cmp (M.2.1 13 0 7) (2549467418 : Int64)) = (0 : Int32) then
      some (true, M)
    else if (lg_cmp (M.2.1 13 0 7) (9592700 : Int64)) = (0 : Int32) then
      some (true, M)
    else if (lg_cmp (M.2.1 13 0 7) (495765 : Int64)) = (0 : Int32) then
      some (true, M)
    else if (lg_cmp (M.2.1 13 0 7) (8740238 : Int64)) = (0 : Int32) then
      some (true, M)
    else if (lg_cmp (M.2.1 13 0 7) (11263 : Int64)) = (0 : Int32) then
      some (true, M)
    else if (lg_cmp (M.2.1 13 0 7) (389777 : Int64)) = (0 : Int32) then
      some (true, M)
    else if (lg_cmp (M.2.1 13 0 7) (12403634 : Int64)) = (0 : Int32) then
      some (true, M)
    else if (lg_cmp (M.2.1 13 0 7) (10631 : Int64)) = (0 : Int32) then
      some (true, M)
    else if (lg_cmp (M.2.1 13 0 7) (1111 : Int64)) = (0 : Int32) then
      some (true, M)
    else if (lg_cmp (M.2.1 13 0 7) (423 : Int64)) = (0 : Int32) then
      some (true, M)
    else
      some (false, M)
  else
    some (true, M)
def b_X12_named_65_1c (F : Nat) (a2 : Int32) (a3 : Int32) (a4 : Int64) (M : mm) (x1 : Int32) : Option ((Int32) ⊕ ((Int32) ⊕ (Unit))) :=
  if (a2 + a3) ≤ x1 then
    some (.inr (.inr ()))
  else
    gi x1 12 <|
    if (lg_cmp (M.2.1 65 0 (Int32.toNatClampNeg x1)) a4) = (0 : Int32) then
      some (.inr (.inl x1))
    else
      some (.inl (x1 + (1 : Int32)))
def b_X12_named_65_1 (F : Nat) (a2 : Int32) (a3 : Int32) (a4 : Int64) (M : mm) : (Int32) → Option ((Int32) ⊕ ((Int32) ⊕ (Unit))) := fun z => b_X12_named_65_1c F a2 a3 a4 M z
def m_X12_named_65 (F : Nat) (a2 : Int32) (a3 : Int32) (a4 : Int64) (M : mm) : Option (Int32 × mm) :=
  bd (lp (b_X12_named_65_1 F a2 a3 a4 M) F a2)
    (Sum.elim
      (fun x2 =>
        some ((x2 - a2), M))
      (fun z => match z with
        | () =>
          some ((-1 : Int32), M)))
def m_X12_personNamed (F : Nat) (M : mm) : Option (Int32 × mm) :=
  gi (6 : Int32) 12 <|
  cl (m_X12_named_65 F (6 : Int32) (M.1 64 0 (Int32.toNatClampNeg (6 : Int32))) (M.2.1 13 0 7) M) fun x2 M1 =>
  some (x2, M1)
def b_X12_named_66_1c (F : Nat) (a2 : Int32) (a3 : Int32) (a4 : Int64) (M : mm) (x1 : Int32) : Option ((Int32) ⊕ ((Int32) ⊕ (Unit))) :=
  if (a2 + a3) ≤ x1 then
    some (.inr (.inr ()))
  else
    gi x1 20 <|
    if (lg_cmp (M.2.1 66 0 (Int32.toNatClampNeg x1)) a4) = (0 : Int32) then
      some (.inr (.inl x1))
    else
      some (.inl (x1 + (1 : Int32)))
def b_X12_named_66_1 (F : Nat) (a2 : Int32) (a3 : Int32) (a4 : Int64) (M : mm) : (Int32) → Option ((Int32) ⊕ ((Int32) ⊕ (Unit))) := fun z => b_X12_named_66_1c F a2 a3 a4 M z
def m_X12_named_66 (F : Nat) (a2 : Int32) (a3 : Int32) (a4 : Int64) (M : mm) : Option (Int32 × mm) :=
  bd (lp (b_X12_named_66_1 F a2 a3 a4 M) F a2)
    (Sum.elim
      (fun x2 =>
        some ((x2 - a2), M))
      (fun z => match z with
        | () =>
          some ((-1 : Int32), M)))
def m_X12_oathNamed (F : Nat) (a1 : Int32) (M : mm) : Option (Int32 × mm) :=
  gi (((6 : Int32) * a1) + (1 : Int32)) 12 <|
  cl (m_X12_named_66 F ((10 : Int32) * a1) (M.1 64 0 (Int32.toNatClampNeg (((6 : Int32) * a1) + (1 : Int32)))) (M.2.1 13 0 7) M) fun x2 M1 =>
  some (x2, M1)
def b_X12_named_67_1c (F : Nat) (a2 : Int32) (a3 : Int32) (a4 : Int64) (M : mm) (x1 : Int32) : Option ((Int32) ⊕ ((Int32) ⊕ (Unit))) :=
  if (a2 + a3) ≤ x1 then
    some (.inr (.inr ()))
  else
    gi x1 20 <|
    if (lg_cmp (M.2.1 67 0 (Int32.toNatClampNeg x1)) a4) = (0 : Int32) then
      some (.inr (.inl x1))
    else
      some (.inl (x1 + (1 : Int32)))
def b_X12_named_67_1 (F : Nat) (a2 : Int32) (a3 : Int32) (a4 : Int64) (M : mm) : (Int32) → Option ((Int32) ⊕ ((Int32) ⊕ (Unit))) := fun z => b_X12_named_67_1c F a2 a3 a4 M z
def m_X12_named_67 (F : Nat) (a2 : Int32) (a3 : Int32) (a4 : Int64) (M : mm) : Option (Int32 × mm) :=
  bd (lp (b_X12_named_67_1 F a2 a3 a4 M) F a2)
    (Sum.elim
      (fun x2 =>
        some ((x2 - a2), M))
      (fun z => match z with
        | () =>
          some ((-1 : Int32), M)))
def m_X12_stoneNamed (F : Nat) (a1 : Int32) (M : mm) : Option (Int32 × mm) :=
  gi (((6 : Int32) * a1) + (2 : Int32)) 12 <|
  cl (m_X12_named_67 F ((10 : Int32) * a1) (M.1 64 0 (Int32.toNatClampNeg (((6 : Int32) * a1) + (2 : Int32)))) (M.2.1 13 0 7) M) fun x2 M1 =>
  some (x2, M1)
def m_X12_needsNumber (F : Nat) (a1 : Int32) (a2 : Int32) (M : mm) : Option (Bool × mm) :=
  if (M.1 13 0 6) = (2 : Int32) then
    cb (m_X12_within F (M.1 13 0 8) a1 a2 M) fun b2 M1 =>
    if b2 = true then
      nm (sI M1 13 0 42 (M1.1 13 0 8)) fun M3 =>
      cv (m_X12_nextToken F M3) fun M4 =>
      some (true, M4)
    else
      cb (m_X12_fails F (4 : Int32) M1) fun b6 M5 =>
      some (b6, M5)
  else
    cb (m_X12_fails F (1 : Int32) M) fun b8 M7 =>
    some (b8, M7)
def m_X12_needsWord (F : Nat) (a1 : Int64) (M : mm) : Option (Bool × mm) :=
  cb (m_X12_isWord F a1 M) fun b2 M1 =>
  if b2 = true then
    cv (m_X12_nextToken F M1) fun M3 =>
    some (true, M3)
  else
    cb (m_X12_fails F (1 : Int32) M1) fun b5 M4 =>
    some (b5, M4)
def m_X12_needsBoth (F : Nat) (a1 : Int64) (a2 : Int32) (a3 : Int32) (M : mm) : Option (Bool × mm) :=
  cb (m_X12_needsWord F a1 M) fun b2 M1 =>
  if b2 = true then
    cb (m_X12_needsNumber F a2 a3 M1) fun b4 M3 =>
    if b4 = true then
      some (true, M3)
    else
      some (false, M3)
  else
    some (false, M1)
def m_X12_closes (F : Nat) (M : mm) : Option (Bool × mm) :=
  cb (m_X12_isSign F (59 : Int32) M) fun b2 M1 =>
  if b2 = true then
    cv (m_X12_nextToken F M1) fun M3 =>
    some (true, M3)
  else
    cb (m_X12_fails F (1 : Int32) M1) fun b5 M4 =>
    some (b5, M4)
def m_X12_isNew (F : Nat) (M : mm) : Option (Bool × mm) :=
  cb (m_X12_isKept F M) fun b2 M1 =>
  if b2 = true then
    cb (m_X12_fails F (1 : Int32) M1) fun b13 M12 =>
    some (b13, M12)
  else
    cl (m_X12_personNamed F M1) fun x4 M3 =>
    nm (fun (M9 : mm) =>
      cb (m_X12_fails F (3 : Int32) M9) fun b11 M10 =>
      if b11 = true then
        some (true, M10)
      else
        some (false, M10)) fun j36 =>
    if (0 : Int32) ≤ x4 then
      j36 M3
    else
      cl (m_X12_oathNamed F (1 : Int32) M3) fun x6 M5 =>
      if (0 : Int32) ≤ x6 then
        j36 M5
      else
        cl (m_X12_stoneNamed F (1 : Int32) M5) fun x8 M7 =>
        if x8 < (0 : Int32) then
          some (true, M7)
        else
          j36 M7
def m_X12_needsOath (F : Nat) (a1 : Int32) (M : mm) : Option (Bool × mm) :=
  cb (m_X12_isKept F M) fun b2 M1 =>
  if b2 = true then
    cb (m_X12_fails F (1 : Int32) M1) fun b9 M8 =>
    some (b9, M8)
  else
    cl (m_X12_oathNamed F a1 M1) fun x4 M3 =>
    nm (sI M3 13 0 42 x4) fun M5 =>
    if (0 : Int32) ≤ (M5.1 13 0 42) then
      some (true, M5)
    else
      cb (m_X12_fails F (2 : Int32) M5) fun b7 M6 =>
      if b7 = true then
        some (true, M6)
      else
        some (false, M6)
def m_X12_readsPerson (F : Nat) (M : mm) : Option (Bool × mm) :=
  gi (6 : Int32) 12 <|
  nm ((6 : Int32) + (M.1 64 0 (Int32.toNatClampNeg (6 : Int32)))) fun x1 =>
  if x1 = (12 : Int32) then
    cb (m_X12_fails F (5 : Int32) M) fun b18 M17 =>
    some (b18, M17)
  else
    cv (m_X12_nextToken F M) fun M2 =>
    cb (m_X12_isNew F M2) fun b4 M3 =>
    if b4 = true then
      nm (M3.2.1 13 0 7) fun x5 =>
      cv (m_X12_nextToken F M3) fun M6 =>
      cb (m_X12_needsBoth F (3215438 : Int64) (0 : Int32) (10 : Int32) M6) fun b8 M7 =>
      if b8 = true then
        gi x1 12 <|
        nm (sI M7 68 0 (Int32.toNatClampNeg x1) (M7.1 13 0 42)) fun M9 =>
        cb (m_X12_needsBoth F (10737164 : Int64) (0 : Int32) (99 : Int32) M9) fun b11 M10 =>
        if b11 = true then
          gi x1 12 <|
          nm (sI M10 69 0 (Int32.toNatClampNeg x1) (M10.1 13 0 42)) fun M12 =>
          gi x1 12 <|
          nm (sL M12 65 0 (Int32.toNatClampNeg x1) x5) fun M13 =>
          gi (6 : Int32) 12 <|
          gi (6 : Int32) 12 <|
          nm (sI M13 64 0 (Int32.toNatClampNeg (6 : Int32)) ((M13.1 64 0 (Int32.toNatClampNeg (6 : Int32))) + (1 : Int32))) fun M14 =>
          cb (m_X12_closes F M14) fun b16 M15 =>
          some (b16, M15)
        else
          some (false, M10)
      else
        some (false, M7)
    else
      some (false, M3)
def m_X12_readsOath (F : Nat) (M : mm) : Option (Bool × mm) :=
  gi (7 : Int32) 12 <|
  nm ((10 : Int32) + (M.1 64 0 (Int32.toNatClampNeg (7 : Int32)))) fun x1 =>
  if x1 = (20 : Int32) then
    cb (m_X12_fails F (5 : Int32) M) fun b43 M42 =>
    some (b43, M42)
  else
    cv (m_X12_nextToken F M) fun M2 =>
    cb (m_X12_isNew F M2) fun b4 M3 =>
    if b4 = true then
      nm (M3.2.1 13 0 7) fun x5 =>
      cv (m_X12_nextToken F M3) fun M6 =>
      cb (m_X12_isWord F (8740238 : Int64) M6) fun b8 M7 =>
      bd (
        if b8 = true then
          some ((0 : Int32), M7)
        else
          cb (m_X12_isWord F (11263 : Int64) M7) fun b10 M9 =>
          if b10 = true then
            some ((1 : Int32), M9)
          else
            cb (m_X12_isWord F (389777 : Int64) M9) fun b12 M11 =>
            if b12 = true then
              some ((2 : Int32), M11)
            else
              cb (m_X12_isWord F (12403634 : Int64) M11) fun b14 M13 =>
              if b14 = true then
                some ((3 : Int32), M13)
              else
                some ((-1 : Int32), M13)
      ) (fun z => match z with
          | (x15, M16) =>
            gi x1 20 <|
            nm (sI M16 70 0 (Int32.toNatClampNeg x1) x15) fun M17 =>
            gi x1 20 <|
            if (0 : Int32) ≤ (M17.1 70 0 (Int32.toNatClampNeg x1)) then
              cv (m_X12_nextToken F M17) fun M18 =>
              cb (m_X12_needsWord F (79 : Int64) M18) fun b20 M19 =>
              if b20 = true then
                cb (m_X12_isKept F M19) fun b22 M21 =>
                if b22 = true then
                  cb (m_X12_fails F (1 : Int32) M21) fun b39 M38 =>
                  some (b39, M38)
                else
                  cl (m_X12_personNamed F M21) fun x24 M23 =>
                  gi x1 20 <|
                  nm (sI M23 71 0 (Int32.toNatClampNeg x1) x24) fun M25 =>
                  gi x1 20 <|
                  if (0 : Int32) ≤ (M25.1 71 0 (Int32.toNatClampNeg x1)) then
                    cv (m_X12_nextToken F M25) fun M26 =>
                    cb (m_X12_needsBoth F (1162531 : Int64) (1 : Int32) (99 : Int32) M26) fun b28 M27 =>
                    if b28 = true then
                      gi x1 20 <|
                      nm (sI M27 72 0 (Int32.toNatClampNeg x1) (M27.1 13 0 42)) fun M29 =>
                      gi x1 20 <|
                      nm (sI M29 73 0 (Int32.toNatClampNeg x1) (-1 : Int32)) fun M30 =>
                      gi x1 20 <|
                      nm (sI M30 74 0 (Int32.toNatClampNeg x1) (0 : Int32)) fun M31 =>
                      gi x1 20 <|
                      nm (sL M31 66 0 (Int32.toNatClampNeg x1) x5) fun M32 =>
                      gi (7 : Int32) 12 <|
                      gi (7 : Int32) 12 <|
                      nm (sI M32 64 0 (Int32.toNatClampNeg (7 : Int32)) ((M32.1 64 0 (Int32.toNatClampNeg (7 : Int32))) + (1 : Int32))) fun M33 =>
                      cb (m_X12_closes F M33) fun b35 M34 =>
                      some (b35, M34)
                    else
                      some (false, M27)
                  else
                    cb (m_X12_fails F (2 : Int32) M25) fun b37 M36 =>
                    some (b37, M36)
              else
                some (false, M19)
            else
              cb (m_X12_fails F (1 : Int32) M17) fun b41 M40 =>
              some (b41, M40))
    else
      some (false, M3)
def m_X12_readsPair (F : Nat) (a1 : Int32) (M : mm) : Option (Bool × mm) :=
  cv (m_X12_nextToken F M) fun M1 =>
  cb (m_X12_needsOath F (1 : Int32) M1) fun b3 M2 =>
  if b3 = true then
    nm (M2.1 13 0 42) fun x4 =>
    nm (fun (z : Unit) => match z with
      | () =>
        cv (m_X12_nextToken F M2) fun M7 =>
        cb (m_X12_needsOath F (1 : Int32) M7) fun b9 M8 =>
        if b9 = true then
          nm (M8.1 13 0 42) fun x10 =>
          nm (fun (z : Unit) => match z with
            | () =>
              cb (m_X12_fails F (3 : Int32) M8) fun b22 M21 =>
              some (b22, M21)) fun j101 =>
          if x4 = x10 then
            j101 ()
          else
            nm (fun (z : Unit) => match z with
              | () =>
                cv (m_X12_nextToken F M8) fun M11 =>
                bd (
                  if a1 = (0 : Int32) then
                    gi ((10 : Int32) + x4) 20 <|
                    gi ((10 : Int32) + x4) 20 <|
                    nm (sI M11 74 0 (Int32.toNatClampNeg ((10 : Int32) + x4)) ((M11.1 74 0 (Int32.toNatClampNeg ((10 : Int32) + x4))) ||| ((1 : Int32) <<< (x10 &&& 31)))) fun M12 =>
                    gi ((10 : Int32) + x10) 20 <|
                    gi ((10 : Int32) + x10) 20 <|
                    nm (sI M12 74 0 (Int32.toNatClampNeg ((10 : Int32) + x10)) ((M12.1 74 0 (Int32.toNatClampNeg ((10 : Int32) + x10))) ||| ((1 : Int32) <<< (x4 &&& 31)))) fun M13 =>
                    gi (11 : Int32) 12 <|
                    gi (11 : Int32) 12 <|
                    nm (sI M13 64 0 (Int32.toNatClampNeg (11 : Int32)) ((M13.1 64 0 (Int32.toNatClampNeg (11 : Int32))) + (1 : Int32))) fun M14 =>
                    some M14
                  else
                    gi ((10 : Int32) + x4) 20 <|
                    nm (sI M11 73 0 (Int32.toNatClampNeg ((10 : Int32) + x4)) x10) fun M15 =>
                    gi ((10 : Int32) + x10) 20 <|
                    nm (sI M15 73 0 (Int32.toNatClampNeg ((10 : Int32) + x10)) x4) fun M16 =>
                    gi (10 : Int32) 12 <|
                    gi (10 : Int32) 12 <|
                    nm (sI M16 64 0 (Int32.toNatClampNeg (10 : Int32)) ((M16.1 64 0 (Int32.toNatClampNeg (10 : Int32))) + (1 : Int32))) fun M17 =>
                    some M17
                ) (fun M18 =>
                    cb (m_X12_closes F M18) fun b20 M19 =>
                    some (b20, M19))) fun j107 =>
            if a1 = (0 : Int32) then
              gi ((10 : Int32) + x4) 20 <|
              if (((M8.1 74 0 (Int32.toNatClampNeg ((10 : Int32) + x4))) >>> (x10 &&& 31)) &&& (1 : Int32)) = (1 : Int32) then
                j101 ()
              else
                j107 ()
            else
              gi ((10 : Int32) + x10) 20 <|
              if (M8.1 73 0 (Int32.toNatClampNeg ((10 : Int32) + x10))) < (0 : Int32) then
                j107 ()
              else
                j101 ()
        else
          some (false, M8)) fun j41 =>
    if a1 = (0 : Int32) then
      j41 ()
    else
      gi ((10 : Int32) + x4) 20 <|
      if (M2.1 73 0 (Int32.toNatClampNeg ((10 : Int32) + x4))) < (0 : Int32) then
        j41 ()
      else
        cb (m_X12_fails F (3 : Int32) M2) fun b6 M5 =>
        some (b6, M5)
  else
    some (false, M2)
def b_X12_readsOn_1c (F : Nat) (a1 : Int32) (x1 : Int32) (M2 : mm) : Option ((Int32 × mm) ⊕ ((mm) ⊕ (mm) ⊕ (mm) ⊕ (mm) ⊕ (mm))) :=
  nm (fun (M5 : mm) =>
    cb (m_X12_isKept F M5) fun b7 M6 =>
    if b7 = true then
      some (.inr (.inl M6))
    else
      cl (m_X12_oathNamed F (1 : Int32) M6) fun x9 M8 =>
      cl (m_X12_stoneNamed F (1 : Int32) M8) fun x11 M10 =>
      nm (fun (z : Unit) => match z with
        | () =>
          nm (fun (z : Unit) => match z with
            | () =>
              bd (
                if x9 < (0 : Int32) then
                  gi a1 22 <|
                  gi a1 22 <|
                  nm (sI M10 78 0 (Int32.toNatClampNeg a1) ((M10.1 78 0 (Int32.toNatClampNeg a1)) ||| ((1 : Int32) <<< (x11 &&& 31)))) fun M12 =>
                  some M12
                else
                  gi a1 22 <|
                  gi a1 22 <|
                  nm (sI M10 77 0 (Int32.toNatClampNeg a1) ((M10.1 77 0 (Int32.toNatClampNeg a1)) ||| ((1 : Int32) <<< (x9 &&& 31)))) fun M13 =>
                  some M13
              ) (fun M14 =>
                  cv (m_X12_nextToken F M14) fun M15 =>
                  some (.inl ((x1 + (1 : Int32)), M15)))) fun j98 =>
          if x9 < (0 : Int32) then
            gi a1 22 <|
            if (((M10.1 78 0 (Int32.toNatClampNeg a1)) >>> (x11 &&& 31)) &&& (1 : Int32)) = (1 : Int32) then
              some (.inr (.inr (.inr (.inr (.inl M10)))))
            else
              j98 ()
          else
            gi a1 22 <|
            if (((M10.1 77 0 (Int32.toNatClampNeg a1)) >>> (x9 &&& 31)) &&& (1 : Int32)) = (1 : Int32) then
              some (.inr (.inr (.inr (.inl M10))))
            else
              j98 ()) fun j56 =>
      if (0 : Int32) ≤ x9 then
        j56 ()
      else if (0 : Int32) ≤ x11 then
        j56 ()
      else
        some (.inr (.inr (.inl M10)))) fun j15 =>
  if x1 = (0 : Int32) then
    j15 M2
  else
    cb (m_X12_isSign F (59 : Int32) M2) fun b4 M3 =>
    if b4 = true then
      some (.inr (.inr (.inr (.inr (.inr M3)))))
    else
      j15 M3
def b_X12_readsOn_1 (F : Nat) (a1 : Int32) : (Int32 × mm) → Option ((Int32 × mm) ⊕ ((mm) ⊕ (mm) ⊕ (mm) ⊕ (mm) ⊕ (mm))) := fun z => b_X12_readsOn_1c F a1 z.1 z.2
def m_X12_readsOn (F : Nat) (a1 : Int32) (M : mm) : Option (Bool × mm) :=
  bd (lp (b_X12_readsOn_1 F a1) F ((0 : Int32), M))
    (Sum.elim
      (fun M16 =>
        cb (m_X12_fails F (1 : Int32) M16) fun b18 M17 =>
        some (b18, M17))
      (Sum.elim
        (fun M19 =>
          cb (m_X12_fails F (2 : Int32) M19) fun b21 M20 =>
          some (b21, M20))
        (Sum.elim
          (fun M22 =>
            cb (m_X12_fails F (3 : Int32) M22) fun b24 M23 =>
            some (b24, M23))
          (Sum.elim
            (fun M25 =>
              cb (m_X12_fails F (3 : Int32) M25) fun b27 M26 =>
              some (b27, M26))
            (fun M28 =>
              some (true, M28))))))
def m_X12_readsStone (F : Nat) (M : mm) : Option (Bool × mm) :=
  gi (8 : Int32) 12 <|
  nm (M.1 64 0 (Int32.toNatClampNeg (8 : Int32))) fun x1 =>
  if x1 = (10 : Int32) then
    cb (m_X12_fails F (5 : Int32) M) fun b27 M26 =>
    some (b27, M26)
  else
    nm ((11 : Int32) + x1) fun x2 =>
    cv (m_X12_nextToken F M) fun M3 =>
    cb (m_X12_isNew F M3) fun b5 M4 =>
    if b5 = true then
      nm (M4.2.1 13 0 7) fun x6 =>
      cv (m_X12_nextToken F M4) fun M7 =>
      cb (m_X12_needsBoth F (332864551 : Int64) (0 : Int32) (99 : Int32) M7) fun b9 M8 =>
      if b9 = true then
        gi x2 22 <|
        nm (sI M8 75 0 (Int32.toNatClampNeg x2) (M8.1 13 0 42)) fun M10 =>
        cb (m_X12_needsBoth F (358337 : Int64) (0 : Int32) (99 : Int32) M10) fun b12 M11 =>
        if b12 = true then
          gi ((10 : Int32) + x1) 20 <|
          nm (sI M11 76 0 (Int32.toNatClampNeg ((10 : Int32) + x1)) (M11.1 13 0 42)) fun M13 =>
          gi x2 22 <|
          nm (sI M13 77 0 (Int32.toNatClampNeg x2) (0 : Int32)) fun M14 =>
          gi x2 22 <|
          nm (sI M14 78 0 (Int32.toNatClampNeg x2) (0 : Int32)) fun M15 =>
          cb (m_X12_isWord F (419 : Int64) M15) fun b17 M16 =>
          nm (fun (M21 : mm) =>
            gi ((10 : Int32) + x1) 20 <|
            nm (sL M21 67 0 (Int32.toNatClampNeg ((10 : Int32) + x1)) x6) fun M22 =>
            gi (8 : Int32) 12 <|
            gi (8 : Int32) 12 <|
            nm (sI M22 64 0 (Int32.toNatClampNeg (8 : Int32)) ((M22.1 64 0 (Int32.toNatClampNeg (8 : Int32))) + (1 : Int32))) fun M23 =>
            cb (m_X12_closes F M23) fun b25 M24 =>
            some (b25, M24)) fun j138 =>
          if b17 = true then
            cv (m_X12_nextToken F M16) fun M18 =>
            cb (m_X12_readsOn F x2 M18) fun b20 M19 =>
            if b20 = true then
              j138 M19
            else
              some (false, M19)
          else
            j138 M16
        else
          some (false, M11)
      else
        some (false, M8)
    else
      some (false, M4)
def m_X12_readsAge (F : Nat) (M : mm) : Option (Bool × mm) :=
  gi (1 : Int32) 2 <|
  gi (1 : Int32) 2 <|
  if (M.1 80 0 (Int32.toNatClampNeg (1 : Int32))) ≤ (M.1 79 0 (Int32.toNatClampNeg (1 : Int32))) then
    cv (m_X12_nextToken F M) fun M1 =>
    gi (1 : Int32) 2 <|
    nm (sI M1 79 0 (Int32.toNatClampNeg (1 : Int32)) (M1.1 13 0 28)) fun M2 =>
    cb (m_X12_reads F M2) fun b4 M3 =>
    if b4 = true then
      gi (1 : Int32) 2 <|
      nm (sI M3 80 0 (Int32.toNatClampNeg (1 : Int32)) (M3.1 13 0 28)) fun M5 =>
      some (true, M5)
    else
      some (false, M3)
  else
    cb (m_X12_fails F (3 : Int32) M) fun b7 M6 =>
    some (b7, M6)
def m_X12_readsMend (F : Nat) (M : mm) : Option (Bool × mm) :=
  if (M.1 13 0 29) = (0 : Int32) then
    nm (sI M 13 0 29 (1 : Int32)) fun M1 =>
    cv (m_X12_nextToken F M1) fun M2 =>
    cb (m_X12_needsNumber F (0 : Int32) (10 : Int32) M2) fun b4 M3 =>
    if b4 = true then
      gi (9 : Int32) 12 <|
      nm (sI M3 64 0 (Int32.toNatClampNeg (9 : Int32)) (M3.1 13 0 42)) fun M5 =>
      cb (m_X12_closes F M5) fun b7 M6 =>
      some (b7, M6)
    else
      some (false, M3)
  else
    cb (m_X12_fails F (3 : Int32) M) fun b9 M8 =>
    some (b9, M8)
def m_X12_starts (F : Nat) (M : mm) : Option (mm) :=
  nm (sI M 13 0 3 (M.1 13 0 1)) fun M1 =>
  nm (sI M1 13 0 1 (0 : Int32)) fun M2 =>
  nm (sI M2 13 0 4 (0 : Int32)) fun M3 =>
  cv (m_X12_nextToken F M3) fun M4 =>
  some M4
def b_X12_readsAll_1c (F : Nat) (M5 : mm) : Option ((mm) ⊕ ((mm) ⊕ (mm))) :=
  if (M5.1 13 0 6) = (0 : Int32) then
    some (.inr (.inr M5))
  else
    cb (m_X12_isWord F (232608281 : Int64) M5) fun b7 M6 =>
    bd (
      if b7 = true then
        cb (m_X12_readsPerson F M6) fun b35 M34 =>
        some ((bI b35), M34)
      else
        cb (m_X12_isWord F (296522 : Int64) M6) fun b9 M8 =>
        if b9 = true then
          cb (m_X12_readsOath F M8) fun b33 M32 =>
          some ((bI b33), M32)
        else
          cb (m_X12_isWord F (239882 : Int64) M8) fun b11 M10 =>
          if b11 = true then
            cb (m_X12_readsPair F (1 : Int32) M10) fun b31 M30 =>
            some ((bI b31), M30)
          else
            cb (m_X12_isWord F (1831769 : Int64) M10) fun b13 M12 =>
            if b13 = true then
              cb (m_X12_readsPair F (0 : Int32) M12) fun b29 M28 =>
              some ((bI b29), M28)
            else
              cb (m_X12_isWord F (10502357 : Int64) M12) fun b15 M14 =>
              if b15 = true then
                cb (m_X12_readsStone F M14) fun b27 M26 =>
                some ((bI b27), M26)
              else
                cb (m_X12_isWord F (923 : Int64) M14) fun b17 M16 =>
                if b17 = true then
                  cb (m_X12_readsAge F M16) fun b25 M24 =>
                  some ((bI b25), M24)
                else
                  cb (m_X12_isWord F (259906 : Int64) M16) fun b19 M18 =>
                  if b19 = true then
                    cb (m_X12_readsMend F M18) fun b23 M22 =>
                    some ((bI b23), M22)
                  else
                    cb (m_X12_fails F (1 : Int32) M18) fun b21 M20 =>
                    some ((bI b21), M20)
    ) (fun z => match z with
        | (x36, M37) =>
          if x36 = (0 : Int32) then
            some (.inr (.inl M37))
          else
            some (.inl M37))
def b_X12_readsAll_1 (F : Nat) : (mm) → Option ((mm) ⊕ ((mm) ⊕ (mm))) := fun z => b_X12_readsAll_1c F z
def m_X12_readsAll (F : Nat) (M : mm) : Option (Bool × mm) :=
  cv (m_X12_plain F (1 : Int32) M) fun M1 =>
  nm (sI M1 13 0 29 (0 : Int32)) fun M2 =>
  nm (sI M2 13 0 28 (1000 : Int32)) fun M3 =>
  cv (m_X12_starts F M3) fun M4 =>
  bd (lp (b_X12_readsAll_1 F) F M4)
    (Sum.elim
      (fun M38 =>
        some (false, M38))
      (fun M39 =>
        some (true, M39)))
def b_X12_moves_64_1c (F : Nat) (a2 : Int32) (x1 : Int32) (M2 : mm) : Option ((Int32 × mm) ⊕ (mm)) :=
  if a2 ≤ x1 then
    some (.inr M2)
  else
    gi (a2 + x1) 12 <|
    gi x1 12 <|
    nm (sI M2 64 0 (Int32.toNatClampNeg x1) (M2.1 64 0 (Int32.toNatClampNeg (a2 + x1)))) fun M3 =>
    some (.inl ((x1 + (1 : Int32)), M3))
def b_X12_moves_64_1 (F : Nat) (a2 : Int32) : (Int32 × mm) → Option ((Int32 × mm) ⊕ (mm)) := fun z => b_X12_moves_64_1c F a2 z.1 z.2
def m_X12_moves_64 (F : Nat) (a2 : Int32) (M : mm) : Option (mm) :=
  bd (lp (b_X12_moves_64_1 F a2) F ((0 : Int32), M))
    (fun M4 =>
      some M4)
def b_X12_movesNames_65_1c (F : Nat) (a2 : Int32) (x1 : Int32) (M2 : mm) : Option ((Int32 × mm) ⊕ (mm)) :=
  if a2 ≤ x1 then
    some (.inr M2)
  else
    gi (a2 + x1) 12 <|
    gi x1 12 <|
    nm (sL M2 65 0 (Int32.toNatClampNeg x1) (M2.2.1 65 0 (Int32.toNatClampNeg (a2 + x1)))) fun M3 =>
    some (.inl ((x1 + (1 : Int32)), M3))
def b_X12_movesNames_65_1 (F : Nat) (a2 : Int32) : (Int32 × mm) → Option ((Int32 × mm) ⊕ (mm)) := fun z => b_X12_movesNames_65_1c F a2 z.1 z.2
def m_X12_movesNames_65 (F : Nat) (a2 : Int32) (M : mm) : Option (mm) :=
  bd (lp (b_X12_movesNames_65_1 F a2) F ((0 : Int32), M))
    (fun M4 =>
      some M4)
def b_X12_movesNames_66_1c (F : Nat) (a2 : Int32) (x1 : Int32) (M2 : mm) : Option ((Int32 × mm) ⊕ (mm)) :=
  if a2 ≤ x1 then
    some (.inr M2)
  else
    gi (a2 + x1) 20 <|
    gi x1 20 <|
    nm (sL M2 66 0 (Int32.toNatClampNeg x1) (M2.2.1 66 0 (Int32.toNatClampNeg (a2 + x1)))) fun M3 =>
    some (.inl ((x1 + (1 : Int32)), M3))
def b_X12_movesNames_66_1 (F : Nat) (a2 : Int32) : (Int32 × mm) → Option ((Int32 × mm) ⊕ (mm)) := fun z => b_X12_movesNames_66_1c F a2 z.1 z.2
def m_X12_movesNames_66 (F : Nat) (a2 : Int32) (M : mm) : Option (mm) :=
  bd (lp (b_X12_movesNames_66_1 F a2) F ((0 : Int32), M))
    (fun M4 =>
      some M4)
def b_X12_movesNames_67_1c (F : Nat) (a2 : Int32) (x1 : Int32) (M2 : mm) : Option ((Int32 × mm) ⊕ (mm)) :=
  if a2 ≤ x1 then
    some (.inr M2)
  else
    gi (a2 + x1) 20 <|
    gi x1 20 <|
    nm (sL M2 67 0 (Int32.toNatClampNeg x1) (M2.2.1 67 0 (Int32.toNatClampNeg (a2 + x1)))) fun M3 =>
    some (.inl ((x1 + (1 : Int32)), M3))
def b_X12_movesNames_67_1 (F : Nat) (a2 : Int32) : (Int32 × mm) → Option ((Int32 × mm) ⊕ (mm)) := fun z => b_X12_movesNames_67_1c F a2 z.1 z.2
def m_X12_movesNames_67 (F : Nat) (a2 : Int32) (M : mm) : Option (mm) :=
  bd (lp (b_X12_movesNames_67_1 F a2) F ((0 : Int32), M))
    (fun M4 =>
      some M4)
def b_X12_moves_68_1c (F : Nat) (a2 : Int32) (x1 : Int32) (M2 : mm) : Option ((Int32 × mm) ⊕ (mm)) :=
  if a2 ≤ x1 then
    some (.inr M2)
  else
    gi (a2 + x1) 12 <|
    gi x1 12 <|
    nm (sI M2 68 0 (Int32.toNatClampNeg x1) (M2.1 68 0 (Int32.toNatClampNeg (a2 + x1)))) fun M3 =>
    some (.inl ((x1 + (1 : Int32)), M3))
def b_X12_moves_68_1 (F : Nat) (a2 : Int32) : (Int32 × mm) → Option ((Int32 × mm) ⊕ (mm)) := fun z => b_X12_moves_68_1c F a2 z.1 z.2
def m_X12_moves_68 (F : Nat) (a2 : Int32) (M : mm) : Option (mm) :=
  bd (lp (b_X12_moves_68_1 F a2) F ((0 : Int32), M))
    (fun M4 =>
      some M4)
def b_X12_moves_69_1c (F : Nat) (a2 : Int32) (x1 : Int32) (M2 : mm) : Option ((Int32 × mm) ⊕ (mm)) :=
  if a2 ≤ x1 then
    some (.inr M2)
  else
    gi (a2 + x1) 12 <|
    gi x1 12 <|
    nm (sI M2 69 0 (Int32.toNatClampNeg x1) (M2.1 69 0 (Int32.toNatClampNeg (a2 + x1)))) fun M3 =>
    some (.inl ((x1 + (1 : Int32)), M3))
def b_X12_moves_69_1 (F : Nat) (a2 : Int32) : (Int32 × mm) → Option ((Int32 × mm) ⊕ (mm)) := fun z => b_X12_moves_69_1c F a2 z.1 z.2
def m_X12_moves_69 (F : Nat) (a2 : Int32) (M : mm) : Option (mm) :=
  bd (lp (b_X12_moves_69_1 F a2) F ((0 : Int32), M))
    (fun M4 =>
      some M4)
def b_X12_moves_70_1c (F : Nat) (a2 : Int32) (x1 : Int32) (M2 : mm) : Option ((Int32 × mm) ⊕ (mm)) :=
  if a2 ≤ x1 then
    some (.inr M2)
  else
    gi (a2 + x1) 20 <|
    gi x1 20 <|
    nm (sI M2 70 0 (Int32.toNatClampNeg x1) (M2.1 70 0 (Int32.toNatClampNeg (a2 + x1)))) fun M3 =>
    some (.inl ((x1 + (1 : Int32)), M3))
def b_X12_moves_70_1 (F : Nat) (a2 : Int32) : (Int32 × mm) → Option ((Int32 × mm) ⊕ (mm)) := fun z => b_X12_moves_70_1c F a2 z.1 z.2
def m_X12_moves_70 (F : Nat) (a2 : Int32) (M : mm) : Option (mm) :=
  bd (lp (b_X12_moves_70_1 F a2) F ((0 : Int32), M))
    (fun M4 =>
      some M4)
def b_X12_moves_71_1c (F : Nat) (a2 : Int32) (x1 : Int32) (M2 : mm) : Option ((Int32 × mm) ⊕ (mm)) :=
  if a2 ≤ x1 then
    some (.inr M2)
  else
    gi (a2 + x1) 20 <|
    gi x1 20 <|
    nm (sI M2 71 0 (Int32.toNatClampNeg x1) (M2.1 71 0 (Int32.toNatClampNeg (a2 + x1)))) fun M3 =>
    some (.inl ((x1 + (1 : Int32)), M3))
def b_X12_moves_71_1 (F : Nat) (a2 : Int32) : (Int32 × mm) → Option ((Int32 × mm) ⊕ (mm)) := fun z => b_X12_moves_71_1c F a2 z.1 z.2
def m_X12_moves_71 (F : Nat) (a2 : Int32) (M : mm) : Option (mm) :=
  bd (lp (b_X12_moves_71_1 F a2) F ((0 : Int32), M))
    (fun M4 =>
      some M4)
def b_X12_moves_72_1c (F : Nat) (a2 : Int32) (x1 : Int32) (M2 : mm) : Option ((Int32 × mm) ⊕ (mm)) :=
  if a2 ≤ x1 then
    some (.inr M2)
  else
    gi (a2 + x1) 20 <|
    gi x1 20 <|
    nm (sI M2 72 0 (Int32.toNatClampNeg x1) (M2.1 72 0 (Int32.toNatClampNeg (a2 + x1)))) fun M3 =>
    some (.inl ((x1 + (1 : Int32)), M3))
def b_X12_moves_72_1 (F : Nat) (a2 : Int32) : (Int32 × mm) → Option ((Int32 × mm) ⊕ (mm)) := fun z => b_X12_moves_72_1c F a2 z.1 z.2
def m_X12_moves_72 (F : Nat) (a2 : Int32) (M : mm) : Option (mm) :=
  bd (lp (b_X12_moves_72_1 F a2) F ((0 : Int32), M))
    (fun M4 =>
      some M4)
