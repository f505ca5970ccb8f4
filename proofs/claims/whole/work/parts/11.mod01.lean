def b_X6_add_1c (F : Nat) (a1 : Int64) (x1 : Int32) (M2 : mm) : Option ((Int32 × mm) ⊕ (mm)) :=
  if x1 < (0 : Int32) then
    some (.inr M2)
  else
    nm ((Int64.toInt32 (a1 >>> (Int32.toInt64 x1 &&& 63))) &&& (255 : Int32)) fun x3 =>
    bd (
      nm (fun (z : Unit) => match z with
        | () =>
          if (1000 : Int32) ≤ (M2.1 7 0 2) then
            some M2
          else
            gi (M2.1 7 0 2) 1000 <|
            nm (sI M2 40 0 (Int32.toNatClampNeg (M2.1 7 0 2)) (vp_nar .byte (Int8.toInt32 (Int32.toInt8 x3)))) fun M4 =>
            nm (sI M4 7 0 2 ((M4.1 7 0 2) + (1 : Int32))) fun M5 =>
            some M5) fun j38 =>
      if x3 = (10 : Int32) then
        j38 ()
      else if x3 < (32 : Int32) then
        some M2
      else if (126 : Int32) < x3 then
        some M2
      else
        j38 ()
    ) (fun M6 =>
        some (.inl ((x1 + (-8 : Int32)), M6)))
def b_X6_add_1 (F : Nat) (a1 : Int64) : (Int32 × mm) → Option ((Int32 × mm) ⊕ (mm)) := fun z => b_X6_add_1c F a1 z.1 z.2
def m_X6_add (F : Nat) (a1 : Int64) (M : mm) : Option (mm) :=
  bd (lp (b_X6_add_1 F a1) F ((56 : Int32), M))
    (fun M7 =>
      some M7)
def m_X11_feed (F : Nat) (a1 : Int64) (a2 : Int64) (a3 : Int64) (M : mm) : Option (Int32 × mm) :=
  cv (m_X6_add F a1 M) fun M1 =>
  cv (m_X6_add F a2 M1) fun M2 =>
  cv (m_X6_add F a3 M2) fun M3 =>
  some ((M3.1 7 0 2), M3)
def b_X2_reset_1c (F : Nat) (o : Nat) (x5 : Int32) (M6 : mm) : Option ((Int32 × mm) ⊕ (mm)) :=
  if (20 : Int32) ≤ x5 then
    some (.inr M6)
  else
    gi x5 20 <|
    nm (sI M6 38 o (Int32.toNatClampNeg x5) (-1 : Int32)) fun M7 =>
    some (.inl ((x5 + (1 : Int32)), M7))
def b_X2_reset_1 (F : Nat) (o : Nat) : (Int32 × mm) → Option ((Int32 × mm) ⊕ (mm)) := fun z => b_X2_reset_1c F o z.1 z.2
def m_X2_reset (F : Nat) (o : Nat) (M : mm) : Option (mm) :=
  nm (sI M 3 o 0 (5 : Int32)) fun M1 =>
  nm (sI M1 3 o 1 (0 : Int32)) fun M2 =>
  nm (sI M2 3 o 2 (0 : Int32)) fun M3 =>
  nm (sI M3 3 o 4 (0 : Int32)) fun M4 =>
  bd (lp (b_X2_reset_1 F o) F ((0 : Int32), M4))
    (fun M8 =>
      some M8)
def b_X0_clear_1c (F : Nat) (o : Nat) (x5 : Int32) (M6 : mm) : Option ((Int32 × mm) ⊕ (mm)) :=
  if (6 : Int32) ≤ x5 then
    some (.inr M6)
  else
    gi x5 6 <|
    nm (sI M6 23 o (Int32.toNatClampNeg x5) (0 : Int32)) fun M7 =>
    some (.inl ((x5 + (1 : Int32)), M7))
def b_X0_clear_1 (F : Nat) (o : Nat) : (Int32 × mm) → Option ((Int32 × mm) ⊕ (mm)) := fun z => b_X0_clear_1c F o z.1 z.2
def m_X0_clear (F : Nat) (o : Nat) (M : mm) : Option (mm) :=
  nm (sI M 1 o 0 (0 : Int32)) fun M1 =>
  nm (sI M1 1 o 5 (0 : Int32)) fun M2 =>
  nm (sI M2 1 o 13 (0 : Int32)) fun M3 =>
  nm (sI M3 1 o 12 (0 : Int32)) fun M4 =>
  bd (lp (b_X0_clear_1 F o) F ((0 : Int32), M4))
    (fun M8 =>
      cv (m_X2_reset F o M8) fun M9 =>
      some M9)
def m_X6_isLetter (F : Nat) (a1 : Int32) (M : mm) : Option (Bool × mm) :=
  if a1 < (97 : Int32) then
    some (false, M)
  else if (122 : Int32) < a1 then
    some (false, M)
  else
    some (true, M)
def m_X6_isDigit (F : Nat) (a1 : Int32) (M : mm) : Option (Bool × mm) :=
  if a1 < (48 : Int32) then
    some (false, M)
  else if (57 : Int32) < a1 then
    some (false, M)
  else
    some (true, M)
def m_X6_isSignOfLanguage (F : Nat) (a1 : Int32) (M : mm) : Option (Bool × mm) :=
  if a1 = (40 : Int32) then
    some (true, M)
  else if a1 = (41 : Int32) then
    some (true, M)
  else if a1 = (60 : Int32) then
    some (true, M)
  else if a1 = (61 : Int32) then
    some (true, M)
  else if a1 = (43 : Int32) then
    some (true, M)
  else if a1 = (45 : Int32) then
    some (true, M)
  else if a1 = (42 : Int32) then
    some (true, M)
  else if a1 = (59 : Int32) then
    some (true, M)
  else
    some (false, M)
def b_X6_readNumber_1c (F : Nat) (M2 : mm) : Option ((mm) ⊕ (mm)) :=
  if (M2.1 7 0 2) ≤ (M2.1 7 0 3) then
    some (.inr M2)
  else
    gi (M2.1 7 0 3) 1000 <|
    cb (m_X6_isDigit F (M2.1 40 0 (Int32.toNatClampNeg (M2.1 7 0 3))) M2) fun b4 M3 =>
    if b4 = true then
      gi (M3.1 7 0 3) 1000 <|
      nm (sI M3 7 0 6 (((M3.1 7 0 6) * (10 : Int32)) + ((M3.1 40 0 (Int32.toNatClampNeg (M3.1 7 0 3))) - (48 : Int32)))) fun M5 =>
      nm (sI M5 7 0 3 ((M5.1 7 0 3) + (1 : Int32))) fun M6 =>
      some (.inl M6)
    else
      some (.inr M3)
def b_X6_readNumber_1 (F : Nat) : (mm) → Option ((mm) ⊕ (mm)) := fun z => b_X6_readNumber_1c F z
def m_X6_readNumber (F : Nat) (M : mm) : Option (mm) :=
  nm (sI M 7 0 6 (0 : Int32)) fun M1 =>
  bd (lp (b_X6_readNumber_1 F) F M1)
    (fun M7 =>
      bd (
        if ((M7.1 7 0 3) - (M7.1 7 0 5)) ≤ (4 : Int32) then
          some (3 : Int32)
        else
          some (1 : Int32)
      ) (fun x8 =>
          nm (sI M7 7 0 4 x8) fun M9 =>
          some M9))
def b_X6_readWord_1c (F : Nat) (M2 : mm) : Option ((mm) ⊕ (mm)) :=
  if (M2.1 7 0 2) ≤ (M2.1 7 0 3) then
    some (.inr M2)
  else
    gi (M2.1 7 0 3) 1000 <|
    cb (m_X6_isLetter F (M2.1 40 0 (Int32.toNatClampNeg (M2.1 7 0 3))) M2) fun b4 M3 =>
    if b4 = true then
      gi (M3.1 7 0 3) 1000 <|
      nm (sL M3 7 0 8 (((M3.2.1 7 0 8) * (32 : Int64)) + (Int32.toInt64 (((M3.1 40 0 (Int32.toNatClampNeg (M3.1 7 0 3))) - (97 : Int32)) + (1 : Int32))))) fun M5 =>
      nm (sI M5 7 0 3 ((M5.1 7 0 3) + (1 : Int32))) fun M6 =>
      some (.inl M6)
    else
      some (.inr M3)
def b_X6_readWord_1 (F : Nat) : (mm) → Option ((mm) ⊕ (mm)) := fun z => b_X6_readWord_1c F z
def b_X6_readWord_2c (F : Nat) (x9 : Int32) (M10 : mm) : Option ((Int32 × mm) ⊕ (mm)) :=
  if (29 : Int32) ≤ x9 then
    some (.inr M10)
  else
    gi x9 29 <|
    bd (
      if (lg_cmp (M10.2.1 41 0 (Int32.toNatClampNeg x9)) (M10.2.1 7 0 8)) = (0 : Int32) then
        nm (sI M10 7 0 7 x9) fun M11 =>
        some M11
      else
        some M10
    ) (fun M12 =>
        some (.inl ((x9 + (1 : Int32)), M12)))
def b_X6_readWord_2 (F : Nat) : (Int32 × mm) → Option ((Int32 × mm) ⊕ (mm)) := fun z => b_X6_readWord_2c F z.1 z.2
def m_X6_readWord (F : Nat) (M : mm) : Option (mm) :=
  nm (sL M 7 0 8 (0 : Int64)) fun M1 =>
  bd (lp (b_X6_readWord_1 F) F M1)
    (fun M7 =>
      if ((M7.1 7 0 3) - (M7.1 7 0 5)) ≤ (8 : Int32) then
        nm (sI M7 7 0 4 (2 : Int32)) fun M8 =>
        bd (lp (b_X6_readWord_2 F) F ((0 : Int32), M8))
          (fun M13 =>
            some M13)
      else
        nm (sI M7 7 0 4 (1 : Int32)) fun M14 =>
        some M14)
def b_X6_next_1c (F : Nat) (M1 : mm) : Option ((mm) ⊕ (mm)) :=
  if (M1.1 7 0 2) ≤ (M1.1 7 0 3) then
    some (.inr M1)
  else
    gi (M1.1 7 0 3) 1000 <|
    nm (fun (z : Unit) => match z with
      | () =>
        nm (sI M1 7 0 3 ((M1.1 7 0 3) + (1 : Int32))) fun M2 =>
        some (.inl M2)) fun j39 =>
    if (M1.1 40 0 (Int32.toNatClampNeg (M1.1 7 0 3))) = (32 : Int32) then
      j39 ()
    else
      gi (M1.1 7 0 3) 1000 <|
      if (M1.1 40 0 (Int32.toNatClampNeg (M1.1 7 0 3))) = (10 : Int32) then
        j39 ()
      else
        some (.inr M1)
def b_X6_next_1 (F : Nat) : (mm) → Option ((mm) ⊕ (mm)) := fun z => b_X6_next_1c F z
def m_X6_next (F : Nat) (M : mm) : Option (mm) :=
  bd (lp (b_X6_next_1 F) F M)
    (fun M3 =>
      nm (sI M3 7 0 5 (M3.1 7 0 3)) fun M4 =>
      nm (sI M4 7 0 7 (-1 : Int32)) fun M5 =>
      if (M5.1 7 0 3) < (M5.1 7 0 2) then
        gi (M5.1 7 0 3) 1000 <|
        cb (m_X6_isLetter F (M5.1 40 0 (Int32.toNatClampNeg (M5.1 7 0 3))) M5) fun b7 M6 =>
        if b7 = true then
          cv (m_X6_readWord F M6) fun M17 =>
          some M17
        else
          gi (M6.1 7 0 3) 1000 <|
          cb (m_X6_isDigit F (M6.1 40 0 (Int32.toNatClampNeg (M6.1 7 0 3))) M6) fun b9 M8 =>
          if b9 = true then
            cv (m_X6_readNumber F M8) fun M16 =>
            some M16
          else
            gi (M8.1 7 0 3) 1000 <|
            nm (sI M8 7 0 6 (M8.1 40 0 (Int32.toNatClampNeg (M8.1 7 0 3)))) fun M10 =>
            cb (m_X6_isSignOfLanguage F (M10.1 7 0 6) M10) fun b12 M11 =>
            bd (
              if b12 = true then
                some (4 : Int32)
              else
                some (1 : Int32)
            ) (fun x13 =>
                nm (sI M11 7 0 4 x13) fun M14 =>
                nm (sI M14 7 0 3 ((M14.1 7 0 3) + (1 : Int32))) fun M15 =>
                some M15)
      else
        nm (sI M5 7 0 4 (0 : Int32)) fun M18 =>
        some M18)
def m_X6_start (F : Nat) (M : mm) : Option (mm) :=
  nm (sI M 7 0 3 (0 : Int32)) fun M1 =>
  cv (m_X6_next F M1) fun M2 =>
  some M2
def m_X6_isName (F : Nat) (M : mm) : Option (Bool × mm) :=
  if (M.1 7 0 4) = (2 : Int32) then
    if (M.1 7 0 7) = (-1 : Int32) then
      some (true, M)
    else if (M.1 7 0 7) < (25 : Int32) then
      some (false, M)
    else
      some (true, M)
  else
    some (false, M)
def b_X5_find_20_1c (F : Nat) (a1 : Nat) (a2 : Int32) (a3 : Int64) (M : mm) (x1 : Int32) : Option ((Int32) ⊕ ((Int32) ⊕ (Unit))) :=
  if a2 ≤ x1 then
    some (.inr (.inr ()))
  else if (6 : Int32) ≤ x1 then
    some (.inr (.inr ()))
  else
    gi x1 6 <|
    if (lg_cmp (M.2.1 20 a1 (Int32.toNatClampNeg x1)) a3) = (0 : Int32) then
      some (.inr (.inl x1))
    else
      some (.inl (x1 + (1 : Int32)))
def b_X5_find_20_1 (F : Nat) (a1 : Nat) (a2 : Int32) (a3 : Int64) (M : mm) : (Int32) → Option ((Int32) ⊕ ((Int32) ⊕ (Unit))) := fun z => b_X5_find_20_1c F a1 a2 a3 M z
def m_X5_find_20 (F : Nat) (a1 : Nat) (a2 : Int32) (a3 : Int64) (M : mm) : Option (Int32 × mm) :=
  bd (lp (b_X5_find_20_1 F a1 a2 a3 M) F (0 : Int32))
    (Sum.elim
      (fun x2 =>
        some (x2, M))
      (fun z => match z with
        | () =>
          some ((-1 : Int32), M)))
def b_X5_find_24_1c (F : Nat) (a1 : Nat) (a2 : Int32) (a3 : Int64) (M : mm) (x1 : Int32) : Option ((Int32) ⊕ ((Int32) ⊕ (Unit))) :=
  if a2 ≤ x1 then
    some (.inr (.inr ()))
  else if (10 : Int32) ≤ x1 then
    some (.inr (.inr ()))
  else
    gi x1 10 <|
    if (lg_cmp (M.2.1 24 a1 (Int32.toNatClampNeg x1)) a3) = (0 : Int32) then
      some (.inr (.inl x1))
    else
      some (.inl (x1 + (1 : Int32)))
def b_X5_find_24_1 (F : Nat) (a1 : Nat) (a2 : Int32) (a3 : Int64) (M : mm) : (Int32) → Option ((Int32) ⊕ ((Int32) ⊕ (Unit))) := fun z => b_X5_find_24_1c F a1 a2 a3 M z
def m_X5_find_24 (F : Nat) (a1 : Nat) (a2 : Int32) (a3 : Int64) (M : mm) : Option (Int32 × mm) :=
  bd (lp (b_X5_find_24_1 F a1 a2 a3 M) F (0 : Int32))
    (Sum.elim
      (fun x2 =>
        some (x2, M))
      (fun z => match z with
        | () =>
          some ((-1 : Int32), M)))
def b_X5_find_30_1c (F : Nat) (a1 : Nat) (a2 : Int32) (a3 : Int64) (M : mm) (x1 : Int32) : Option ((Int32) ⊕ ((Int32) ⊕ (Unit))) :=
  if a2 ≤ x1 then
    some (.inr (.inr ()))
  else if (10 : Int32) ≤ x1 then
    some (.inr (.inr ()))
  else
    gi x1 10 <|
    if (lg_cmp (M.2.1 30 a1 (Int32.toNatClampNeg x1)) a3) = (0 : Int32) then
      some (.inr (.inl x1))
    else
      some (.inl (x1 + (1 : Int32)))
def b_X5_find_30_1 (F : Nat) (a1 : Nat) (a2 : Int32) (a3 : Int64) (M : mm) : (Int32) → Option ((Int32) ⊕ ((Int32) ⊕ (Unit))) := fun z => b_X5_find_30_1c F a1 a2 a3 M z
def m_X5_find_30 (F : Nat) (a1 : Nat) (a2 : Int32) (a3 : Int64) (M : mm) : Option (Int32 × mm) :=
  bd (lp (b_X5_find_30_1 F a1 a2 a3 M) F (0 : Int32))
    (Sum.elim
      (fun x2 =>
        some (x2, M))
      (fun z => match z with
        | () =>
          some ((-1 : Int32), M)))
def m_X5_wrong (F : Nat) (a1 : Int32) (M : mm) : Option (Bool × mm) :=
  nm (sI M 6 0 4 (a1 + ((16 : Int32) * (M.1 7 0 5)))) fun M1 =>
  some (false, M1)
def m_X5_takeNewName (F : Nat) (M : mm) : Option (Bool × mm) :=
  cb (m_X6_isName F M) fun b2 M1 =>
  if b2 = true then
    cl (m_X5_find_20 F (M1.2.2 6 0 2) (M1.1 1 (M1.2.2 6 0 2) 0) (M1.2.1 7 0 8) M1) fun x4 M3 =>
    nm (fun (M10 : mm) =>
      cb (m_X5_wrong F (3 : Int32) M10) fun b12 M11 =>
      some (b12, M11)) fun j100 =>
    if x4 = (-1 : Int32) then
      cl (m_X5_find_24 F (M3.2.2 6 0 2) (M3.1 1 (M3.2.2 6 0 2) 5) (M3.2.1 7 0 8) M3) fun x6 M5 =>
      if x6 = (-1 : Int32) then
        cl (m_X5_find_30 F (M5.2.2 6 0 2) (M5.1 1 (M5.2.2 6 0 2) 13) (M5.2.1 7 0 8) M5) fun x8 M7 =>
        if x8 = (-1 : Int32) then
          cv (m_X6_next F M7) fun M9 =>
          some (true, M9)
        else
          j100 M7
      else
        j100 M5
    else
      j100 M3
  else
    cb (m_X5_wrong F (1 : Int32) M1) fun b14 M13 =>
    some (b14, M13)
def m_X6_isWord (F : Nat) (a1 : Int32) (M : mm) : Option (Bool × mm) :=
  if (M.1 7 0 4) = (2 : Int32) then
    if (M.1 7 0 7) = a1 then
      some (true, M)
    else
      some (false, M)
  else
    some (false, M)
def m_X5_takeWord (F : Nat) (a1 : Int32) (M : mm) : Option (Bool × mm) :=
  cb (m_X6_isWord F a1 M) fun b2 M1 =>
  if b2 = true then
    cv (m_X6_next F M1) fun M3 =>
    some (true, M3)
  else
    cb (m_X5_wrong F (1 : Int32) M1) fun b5 M4 =>
    some (b5, M4)
def m_X5_takeNumber (F : Nat) (a1 : Int32) (a2 : Int32) (M : mm) : Option (Bool × mm) :=
  if (M.1 7 0 4) = (3 : Int32) then
    nm (sI M 6 0 5 (M.1 7 0 6)) fun M1 =>
    nm (fun (z : Unit) => match z with
      | () =>
        cb (m_X5_wrong F (4 : Int32) M1) fun b4 M3 =>
        some (b4, M3)) fun j44 =>
    if (M1.1 6 0 5) < a1 then
      j44 ()
    else if (M1.1 6 0 5) ≤ a2 then
      cv (m_X6_next F M1) fun M2 =>
      some (true, M2)
    else
      j44 ()
  else
    cb (m_X5_wrong F (1 : Int32) M) fun b6 M5 =>
    some (b6, M5)
def m_X6_isSign (F : Nat) (a1 : Int32) (M : mm) : Option (Bool × mm) :=
  if (M.1 7 0 4) = (4 : Int32) then
    if (M.1 7 0 6) = a1 then
      some (true, M)
    else
      some (false, M)
  else
    some (false, M)
def m_X5_takeEnd (F : Nat) (M : mm) : Option (Bool × mm) :=
  cb (m_X6_isSign F (59 : Int32) M) fun b2 M1 =>
  if b2 = true then
    cv (m_X6_next F M1) fun M3 =>
    some (true, M3)
  else
    cb (m_X5_wrong F (1 : Int32) M1) fun b5 M4 =>
    some (b5, M4)
def m_X5_readPerson (F : Nat) (M : mm) : Option (Bool × mm) :=
  nm (M.1 1 (M.2.2 6 0 2) 0) fun x1 =>
  if x1 < (6 : Int32) then
    cv (m_X6_next F M) fun M2 =>
    nm (M2.2.1 7 0 8) fun x3 =>
    cb (m_X5_takeNewName F M2) fun b5 M4 =>
    if b5 = true then
      cb (m_X5_takeWord F (1 : Int32) M4) fun b7 M6 =>
      if b7 = true then
        cb (m_X5_takeNumber F (0 : Int32) (10 : Int32) M6) fun b9 M8 =>
        if b9 = true then
          gi x1 6 <|
          nm (sI M8 21 (M8.2.2 6 0 2) (Int32.toNatClampNeg x1) (M8.1 6 0 5)) fun M10 =>
          cb (m_X5_takeWord F (2 : Int32) M10) fun b12 M11 =>
          if b12 = true then
            cb (m_X5_takeNumber F (0 : Int32) (99 : Int32) M11) fun b14 M13 =>
            if b14 = true then
              cb (m_X5_takeEnd F M13) fun b16 M15 =>
              if b16 = true then
                gi x1 6 <|
                nm (sI M15 22 (M15.2.2 6 0 2) (Int32.toNatClampNeg x1) (M15.1 6 0 5)) fun M17 =>
                gi x1 6 <|
                nm (sL M17 20 (M17.2.2 6 0 2) (Int32.toNatClampNeg x1) x3) fun M18 =>
                nm (sI M18 1 (M18.2.2 6 0 2) 0 ((M18.1 1 (M18.2.2 6 0 2) 0) + (1 : Int32))) fun M19 =>
                some (true, M19)
              else
                some (false, M15)
            else
              some (false, M13)
          else
            some (false, M11)
        else
          some (false, M8)
      else
        some (false, M6)
    else
      some (false, M4)
  else
    cb (m_X5_wrong F (5 : Int32) M) fun b21 M20 =>
    some (b21, M20)
def m_X5_seeKnown_20 (F : Nat) (a1 : Nat) (a2 : Int32) (M : mm) : Option (Bool × mm) :=
  cb (m_X6_isName F M) fun b2 M1 =>
  if b2 = true then
    cl (m_X5_find_20 F a1 a2 (M1.2.1 7 0 8) M1) fun x4 M3 =>
    nm (sI M3 6 0 6 x4) fun M5 =>
    if (M5.1 6 0 6) = (-1 : Int32) then
      cb (m_X5_wrong F (2 : Int32) M5) fun b7 M6 =>
      if b7 = true then
        some (true, M6)
      else
        some (false, M6)
    else
      some (true, M5)
  else
    cb (m_X5_wrong F (1 : Int32) M1) fun b9 M8 =>
    some (b9, M8)
def m_X0_addOath (F : Nat) (o : Nat) (a1 : Int64) (a2 : Int32) (a3 : Int32) (a4 : Int32) (M : mm) : Option (mm) :=
  if (10 : Int32) ≤ (M.1 1 o 5) then
    some M
  else if a3 < (0 : Int32) then
    some M
  else if a3 < (6 : Int32) then
    gi (M.1 1 o 5) 10 <|
    nm (sL M 24 o (Int32.toNatClampNeg (M.1 1 o 5)) a1) fun M1 =>
    gi (M1.1 1 o 5) 10 <|
    nm (sI M1 25 o (Int32.toNatClampNeg (M1.1 1 o 5)) a2) fun M2 =>
    gi (M2.1 1 o 5) 10 <|
    nm (sI M2 26 o (Int32.toNatClampNeg (M2.1 1 o 5)) a3) fun M3 =>
    gi (M3.1 1 o 5) 10 <|
    nm (sI M3 27 o (Int32.toNatClampNeg (M3.1 1 o 5)) a4) fun M4 =>
    gi (M4.1 1 o 5) 10 <|
    nm (sI M4 28 o (Int32.toNatClampNeg (M4.1 1 o 5)) (-1 : Int32)) fun M5 =>
    gi (M5.1 1 o 5) 10 <|
    nm (sI M5 29 o (Int32.toNatClampNeg (M5.1 1 o 5)) (0 : Int32)) fun M6 =>
    gi a3 6 <|
    gi a3 6 <|
    nm (sI M6 23 o (Int32.toNatClampNeg a3) ((M6.1 23 o (Int32.toNatClampNeg a3)) ||| ((1 : Int32) <<< ((M6.1 1 o 5) &&& 31)))) fun M7 =>
    bd (
      if a2 = (2 : Int32) then
        some ((1 : Int32) <<< ((M7.1 1 o 5) &&& 31))
      else
        some (0 : Int32)
    ) (fun x8 =>
        nm (sI M7 1 o 12 ((M7.1 1 o 12) ||| x8)) fun M9 =>
        nm (sI M9 1 o 5 ((M9.1 1 o 5) + (1 : Int32))) fun M10 =>
        some M10)
  else
    some M
def m_X5_readOath (F : Nat) (M : mm) : Option (Bool × mm) :=
  nm (M.1 1 (M.2.2 6 0 2) 5) fun x1 =>
  if x1 < (10 : Int32) then
    cv (m_X6_next F M) fun M2 =>
    nm (M2.2.1 7 0 8) fun x3 =>
    cb (m_X5_takeNewName F M2) fun b5 M4 =>
    if b5 = true then
      nm (fun (z : Unit) => match z with
        | () =>
          cb (m_X5_wrong F (1 : Int32) M4) fun b22 M21 =>
          some (b22, M21)) fun j68 =>
      if (M4.1 7 0 7) < (18 : Int32) then
        j68 ()
      else if (M4.1 7 0 7) ≤ (21 : Int32) then
        nm ((M4.1 7 0 7) - (18 : Int32)) fun x6 =>
        cv (m_X6_next F M4) fun M7 =>
        cb (m_X5_takeWord F (4 : Int32) M7) fun b9 M8 =>
        if b9 = true then
          cb (m_X5_seeKnown_20 F (M8.2.2 6 0 2) (M8.1 1 (M8.2.2 6 0 2) 0) M8) fun b11 M10 =>
          if b11 = true then
            nm (M10.1 6 0 6) fun x12 =>
            cv (m_X6_next F M10) fun M13 =>
            cb (m_X5_takeWord F (5 : Int32) M13) fun b15 M14 =>
            if b15 = true then
              cb (m_X5_takeNumber F (1 : Int32) (99 : Int32) M14) fun b17 M16 =>
              if b17 = true then
                cb (m_X5_takeEnd F M16) fun b19 M18 =>
                if b19 = true then
                  cv (m_X0_addOath F (M18.2.2 6 0 2) x3 x6 x12 (M18.1 6 0 5) M18) fun M20 =>
                  some (true, M20)
                else
                  some (false, M18)
              else
                some (false, M16)
            else
              some (false, M14)
          else
            some (false, M10)
        else
          some (false, M8)
      else
        j68 ()
    else
      some (false, M4)
  else
    cb (m_X5_wrong F (5 : Int32) M) fun b24 M23 =>
    some (b24, M23)
def m_X5_seeKnown_24 (F : Nat) (a1 : Nat) (a2 : Int32) (M : mm) : Option (Bool × mm) :=
  cb (m_X6_isName F M) fun b2 M1 =>
  if b2 = true then
    cl (m_X5_find_24 F a1 a2 (M1.2.1 7 0 8) M1) fun x4 M3 =>
    nm (sI M3 6 0 6 x4) fun M5 =>
    if (M5.1 6 0 6) = (-1 : Int32) then
      cb (m_X5_wrong F (2 : Int32) M5) fun b7 M6 =>
      if b7 = true then
        some (true, M6)
      else
        some (false, M6)
    else
      some (true, M5)
  else
    cb (m_X5_wrong F (1 : Int32) M1) fun b9 M8 =>
    some (b9, M8)
def m_X5_readLean (F : Nat) (M : mm) : Option (Bool × mm) :=
  cv (m_X6_next F M) fun M1 =>
  cb (m_X5_seeKnown_24 F (M1.2.2 6 0 2) (M1.1 1 (M1.2.2 6 0 2) 5) M1) fun b3 M2 =>
  if b3 = true then
    nm (M2.1 6 0 6) fun x4 =>
    gi x4 10 <|
    if (M2.1 28 (M2.2.2 6 0 2) (Int32.toNatClampNeg x4)) = (-1 : Int32) then
      cv (m_X6_next F M2) fun M5 =>
      cb (m_X5_seeKnown_24 F (M5.2.2 6 0 2) (M5.1 1 (M5.2.2 6 0 2) 5) M5) fun b7 M6 =>
      if b7 = true then
        nm (M6.1 6 0 6) fun x8 =>
        nm (fun (z : Unit) => match z with
          | () =>
            cb (m_X5_wrong F (3 : Int32) M6) fun b15 M14 =>
            some (b15, M14)) fun j107 =>
        if x8 = x4 then
          j107 ()
        else
          gi x8 10 <|
          if (M6.1 28 (M6.2.2 6 0 2) (Int32.toNatClampNeg x8)) = (-1 : Int32) then
            cv (m_X6_next F M6) fun M9 =>
            gi x4 10 <|
            nm (sI M9 28 (M9.2.2 6 0 2) (Int32.toNatClampNeg x4) x8) fun M10 =>
            gi x8 10 <|
            nm (sI M10 28 (M10.2.2 6 0 2) (Int32.toNatClampNeg x8) x4) fun M11 =>
            cb (m_X5_takeEnd F M11) fun b13 M12 =>
            some (b13, M12)
          else
            j107 ()
      else
        some (false, M6)
    else
      cb (m_X5_wrong F (3 : Int32) M2) fun b17 M16 =>
      some (b17, M16)
  else
    some (false, M2)
def m_X5_readClash (F : Nat) (M : mm) : Option (Bool × mm) :=
  cv (m_X6_next F M) fun M1 =>
  cb (m_X5_seeKnown_24 F (M1.2.2 6 0 2) (M1.1 1 (M1.2.2 6 0 2) 5) M1) fun b3 M2 =>
  if b3 = true then
    nm (M2.1 6 0 6) fun x4 =>
    cv (m_X6_next F M2) fun M5 =>
    cb (m_X5_seeKnown_24 F (M5.2.2 6 0 2) (M5.1 1 (M5.2.2 6 0 2) 5) M5) fun b7 M6 =>
    if b7 = true then
      nm (M6.1 6 0 6) fun x8 =>
      nm (fun (z : Unit) => match z with
        | () =>
          cb (m_X5_wrong F (3 : Int32) M6) fun b15 M14 =>
          some (b15, M14)) fun j91 =>
      if x8 = x4 then
        j91 ()
      else
        gi x4 10 <|
        if (((M6.1 29 (M6.2.2 6 0 2) (Int32.toNatClampNeg x4)) >>> (x8 &&& 31)) &&& (1 : Int32)) = (0 : Int32) then
          cv (m_X6_next F M6) fun M9 =>
          gi x4 10 <|
          gi x4 10 <|
          nm (sI M9 29 (M9.2.2 6 0 2) (Int32.toNatClampNeg x4) ((M9.1 29 (M9.2.2 6 0 2) (Int32.toNatClampNeg x4)) ||| ((1 : Int32) <<< (x8 &&& 31)))) fun M10 =>
          gi x8 10 <|
          gi x8 10 <|
          nm (sI M10 29 (M10.2.2 6 0 2) (Int32.toNatClampNeg x8) ((M10.1 29 (M10.2.2 6 0 2) (Int32.toNatClampNeg x8)) ||| ((1 : Int32) <<< (x4 &&& 31)))) fun M11 =>
          cb (m_X5_takeEnd F M11) fun b13 M12 =>
          some (b13, M12)
        else
          j91 ()
    else
      some (false, M6)
  else
    some (false, M2)
def m_X5_readSupport (F : Nat) (a1 : Int32) (M : mm) : Option (Bool × mm) :=
  cb (m_X6_isName F M) fun b2 M1 =>
  if b2 = true then
    cl (m_X5_find_24 F (M1.2.2 6 0 2) (M1.1 1 (M1.2.2 6 0 2) 5) (M1.2.1 7 0 8) M1) fun x4 M3 =>
    cl (m_X5_find_30 F (M3.2.2 6 0 2) (M3.1 1 (M3.2.2 6 0 2) 13) (M3.2.1 7 0 8) M3) fun x6 M5 =>
    nm (fun (z : Unit) => match z with
      | () =>
        bd (
          if x4 = (-1 : Int32) then
            some (0 : Int32)
          else
            some ((1 : Int32) <<< (x4 &&& 31))
        ) (fun x9 =>
            bd (
              if x6 = (-1 : Int32) then
                some (0 : Int32)
              else
                some ((1 : Int32) <<< (x6 &&& 31))
            ) (fun x10 =>
                gi a1 10 <|
                nm (fun (z : Unit) => match z with
                  | () =>
                    cb (m_X5_wrong F (3 : Int32) M5) fun b14 M13 =>
                    some (b14, M13)) fun j140 =>
                if ((M5.1 33 (M5.2.2 6 0 2) (Int32.toNatClampNeg a1)) &&& x9) = (0 : Int32) then
                  gi a1 10 <|
                  if ((M5.1 34 (M5.2.2 6 0 2) (Int32.toNatClampNeg a1)) &&& x10) = (0 : Int32) then
                    gi a1 10 <|
                    gi a1 10 <|
                    nm (sI M5 33 (M5.2.2 6 0 2) (Int32.toNatClampNeg a1) ((M5.1 33 (M5.2.2 6 0 2) (Int32.toNatClampNeg a1)) ||| x9)) fun M11 =>
                    gi a1 10 <|
                    gi a1 10 <|
                    nm (sI M11 34 (M11.2.2 6 0 2) (Int32.toNatClampNeg a1) ((M11.1 34 (M11.2.2 6 0 2) (Int32.toNatClampNeg a1)) ||| x10)) fun M12 =>
                    some (true, M12)
                  else
                    j140 ()
                else
                  j140 ()))) fun j82 =>
    if x4 = (-1 : Int32) then
      if x6 = (-1 : Int32) then
        cb (m_X5_wrong F (2 : Int32) M5) fun b8 M7 =>
        some (b8, M7)
      else
        j82 ()
    else
      j82 ()
  else
    cb (m_X5_wrong F (1 : Int32) M1) fun b16 M15 =>
    some (b16, M15)
def b_X5_readOn_1c (F : Nat) (a1 : Int32) (x2 : Int32) (x3 : Int32) (M4 : mm) : Option ((Int32 × Int32 × mm) ⊕ ((mm) ⊕ (mm))) :=
  if (1000 : Int32) < x3 then
    some (.inr (.inr M4))
  else if x2 = (0 : Int32) then
    some (.inr (.inr M4))
  else
    cb (m_X5_readSupport F a1 M4) fun b6 M5 =>
    if b6 = true then
      cv (m_X6_next F M5) fun M7 =>
      cb (m_X6_isName F M7) fun b9 M8 =>
      some (.inl ((bI b9), (x3 + (1 : Int32)), M8))
    else
      some (.inr (.inl M5))
def b_X5_readOn_1 (F : Nat) (a1 : Int32) : (Int32 × Int32 × mm) → Option ((Int32 × Int32 × mm) ⊕ ((mm) ⊕ (mm))) := fun z => b_X5_readOn_1c F a1 z.1 z.2.1 z.2.2
def m_X5_readOn (F : Nat) (a1 : Int32) (M : mm) : Option (Bool × mm) :=
  cv (m_X6_next F M) fun M1 =>
  bd (lp (b_X5_readOn_1 F a1) F ((1 : Int32), (0 : Int32), M1))
    (Sum.elim
      (fun M10 =>
        some (false, M10))
      (fun M11 =>
        some (true, M11)))
def m_X5_readStone (F : Nat) (M : mm) : Option (Bool × mm) :=
  nm (M.1 1 (M.2.2 6 0 2) 13) fun x1 =>
  if x1 < (10 : Int32) then
    cv (m_X6_next F M) fun M2 =>
    nm (M2.2.1 7 0 8) fun x3 =>
    cb (m_X5_takeNewName F M2) fun b5 M4 =>
    if b5 = true then
      cb (m_X5_takeWord F (9 : Int32) M4) fun b7 M6 =>
      if b7 = true then
        cb (m_X5_takeNumber F (0 : Int32) (99 : Int32) M6) fun b9 M8 =>
        if b9 = true then
          gi x1 10 <|
          nm (sI M8 31 (M8.2.2 6 0 2) (Int32.toNatClampNeg x1) (M8.1 6 0 5)) fun M10 =>
          cb (m_X5_takeWord F (10 : Int32) M10) fun b12 M11 =>
          if b12 = true then
            cb (m_X5_takeNumber F (0 : Int32) (99 : Int32) M11) fun b14 M13 =>
            if b14 = true then
              gi x1 10 <|
              nm (sI M13 32 (M13.2.2 6 0 2) (Int32.toNatClampNeg x1) (M13.1 6 0 5)) fun M15 =>
              gi x1 10 <|
              nm (sI M15 33 (M15.2.2 6 0 2) (Int32.toNatClampNeg x1) (0 : Int32)) fun M16 =>
              gi x1 10 <|
              nm (sI M16 34 (M16.2.2 6 0 2) (Int32.toNatClampNeg x1) (0 : Int32)) fun M17 =>
              cb (m_X6_isWord F (11 : Int32) M17) fun b19 M18 =>
              nm (fun (M22 : mm) =>
                cb (m_X5_takeEnd F M22) fun b24 M23 =>
                if b24 = true then
                  gi x1 10 <|
                  nm (sL M23 30 (M23.2.2 6 0 2) (Int32.toNatClampNeg x1) x3) fun M25 =>
                  nm (sI M25 1 (M25.2.2 6 0 2) 13 ((M25.1 1 (M25.2.2 6 0 2) 13) + (1 : Int32))) fun M26 =>
                  some (true, M26)
                else
                  some (false, M23)) fun j152 =>
              if b19 = true then
                cb (m_X5_readOn F x1 M18) fun b21 M20 =>
                if b21 = true then
                  j152 M20
                else
                  some (false, M20)
              else
                j152 M18
            else
              some (false, M13)
          else
            some (false, M11)
        else
          some (false, M8)
      else
        some (false, M6)
    else
      some (false, M4)
  else
    cb (m_X5_wrong F (5 : Int32) M) fun b28 M27 =>
    some (b28, M27)
def m_X2_renew (F : Nat) (o : Nat) (M : mm) : Option (mm) :=
  nm (sI M 3 o 2 (1 : Int32)) fun M1 =>
  nm (sI M1 3 o 4 (0 : Int32)) fun M2 =>
  some M2
def m_X3_jointCode (F : Nat) (M : mm) : Option (Int32 × mm) :=
  cb (m_X6_isWord F (23 : Int32) M) fun b2 M1 =>
  if b2 = true then
    some ((-6 : Int32), M1)
  else
    cb (m_X6_isWord F (24 : Int32) M1) fun b4 M3 =>
    if b4 = true then
      some ((-7 : Int32), M3)
    else if (M3.1 7 0 4) = (4 : Int32) then
      nm (M3.1 7 0 6) fun x5 =>
      if x5 = (42 : Int32) then
        some ((-12 : Int32), M3)
      else if x5 = (43 : Int32) then
        some ((-10 : Int32), M3)
      else if x5 = (45 : Int32) then
        some ((-11 : Int32), M3)
      else if x5 = (60 : Int32) then
        some ((-8 : Int32), M3)
      else if x5 = (61 : Int32) then
        some ((-9 : Int32), M3)
      else
        some ((-14 : Int32), M3)
    else
      some ((-14 : Int32), M3)
def m_X3_rank (F : Nat) (a1 : Int32) (M : mm) : Option (Int32 × mm) :=
  if a1 = (-12 : Int32) then
    some ((4 : Int32), M)
  else if a1 = (-11 : Int32) then
    some ((3 : Int32), M)
  else if a1 = (-10 : Int32) then
    some ((3 : Int32), M)
  else if a1 = (-9 : Int32) then
    some ((2 : Int32), M)
  else if a1 = (-8 : Int32) then
    some ((2 : Int32), M)
  else if a1 = (-7 : Int32) then
    some ((1 : Int32), M)
  else if a1 = (-6 : Int32) then
    some ((1 : Int32), M)
  else
    some ((0 : Int32), M)
def m_X2_add (F : Nat) (o : Nat) (a1 : Int32) (M : mm) : Option (mm) :=
  if (1000 : Int32) ≤ (M.1 3 o 4) then
    some M
  else
    gi (M.1 3 o 4) 1000 <|
    nm (sI M 35 o (Int32.toNatClampNeg (M.1 3 o 4)) a1) fun M1 =>
    nm (sI M1 3 o 4 ((M1.1 3 o 4) + (1 : Int32))) fun M2 =>
    some M2
def b_X3_settle_1c (F : Nat) (a1 : Int32) (M1 : mm) : Option ((mm) ⊕ (mm)) :=
  if (M1.1 4 0 2) ≤ (0 : Int32) then
    some (.inr M1)
  else
    gi ((M1.1 4 0 2) - (1 : Int32)) 64 <|
    cl (m_X3_rank F (M1.1 39 0 (Int32.toNatClampNeg ((M1.1 4 0 2) - (1 : Int32)))) M1) fun x3 M2 =>
    if x3 < a1 then
      some (.inr M2)
    else
      nm (sI M2 4 0 2 ((M2.1 4 0 2) - (1 : Int32))) fun M4 =>
      gi (M4.1 4 0 2) 64 <|
      cv (m_X2_add F (M4.2.2 4 0 6) (M4.1 39 0 (Int32.toNatClampNeg (M4.1 4 0 2))) M4) fun M5 =>
      some (.inl M5)
def b_X3_settle_1 (F : Nat) (a1 : Int32) : (mm) → Option ((mm) ⊕ (mm)) := fun z => b_X3_settle_1c F a1 z
def m_X3_settle (F : Nat) (a1 : Int32) (M : mm) : Option (mm) :=
  bd (lp (b_X3_settle_1 F a1) F M)
    (fun M6 =>
      some M6)
def m_X3_push (F : Nat) (a1 : Int32) (M : mm) : Option (mm) :=
  if (64 : Int32) ≤ (M.1 4 0 2) then
    some M
  else
    gi (M.1 4 0 2) 64 <|
    nm (sI M 39 0 (Int32.toNatClampNeg (M.1 4 0 2)) a1) fun M1 =>
    nm (sI M1 4 0 2 ((M1.1 4 0 2) + (1 : Int32))) fun M2 =>
    some M2
def b_X3_endPart_1c (F : Nat) (M1 : mm) : Option ((mm) ⊕ (mm)) :=
  if (M1.1 4 0 2) ≤ (0 : Int32) then
    some (.inr M1)
  else
    gi ((M1.1 4 0 2) - (1 : Int32)) 64 <|
    if (M1.1 39 0 (Int32.toNatClampNeg ((M1.1 4 0 2) - (1 : Int32)))) = (-5 : Int32) then
      nm (sI M1 4 0 2 ((M1.1 4 0 2) - (1 : Int32))) fun M2 =>
      nm (sI M2 4 0 3 ((M2.1 4 0 3) - (1 : Int32))) fun M3 =>
      cv (m_X2_add F (M3.2.2 4 0 6) (-5 : Int32) M3) fun M4 =>
      some (.inl M4)
    else
      some (.inr M1)
def b_X3_endPart_1 (F : Nat) : (mm) → Option ((mm) ⊕ (mm)) := fun z => b_X3_endPart_1c F z
def m_X3_endPart (F : Nat) (M : mm) : Option (mm) :=
  bd (lp (b_X3_endPart_1 F) F M)
    (fun M5 =>
      nm (sI M5 4 0 5 (0 : Int32)) fun M6 =>
      some M6)
def m_X3_readJoint (F : Nat) (M : mm) : Option (Int32 × mm) :=
  cb (m_X6_isSign F (41 : Int32) M) fun b2 M1 =>
  if b2 = true then
    if (M1.1 4 0 4) = (0 : Int32) then
      some ((1 : Int32), M1)
    else
      cv (m_X3_settle F (1 : Int32) M1) fun M17 =>
      nm (sI M17 4 0 2 ((M17.1 4 0 2) - (1 : Int32))) fun M18 =>
      nm (sI M18 4 0 3 ((M18.1 4 0 3) - (1 : Int32))) fun M19 =>
      nm (sI M19 4 0 4 ((M19.1 4 0 4) - (1 : Int32))) fun M20 =>
      cv (m_X3_endPart F M20) fun M21 =>
      some ((0 : Int32), M21)
  else
    cl (m_X3_jointCode F M1) fun x4 M3 =>
    if x4 = (-14 : Int32) then
      some ((1 : Int32), M3)
    else
      cl (m_X3_rank F x4 M3) fun x6 M5 =>
      cl (m_X3_rank F (-8 : Int32) M5) fun x8 M7 =>
      bd (
        if x6 = x8 then
          some (1 : Int32)
        else
          some (0 : Int32)
      ) (fun x9 =>
          bd (
            if x9 = (0 : Int32) then
              some x6
            else
              some (x6 + (1 : Int32))
          ) (fun x10 =>
              cv (m_X3_settle F x10 M7) fun M11 =>
              nm (fun (M14 : mm) =>
                cv (m_X3_push F x4 M14) fun M15 =>
                nm (sI M15 4 0 5 (1 : Int32)) fun M16 =>
                some ((0 : Int32), M16)) fun j141 =>
              if x9 = (0 : Int32) then
                j141 M11
              else if (M11.1 4 0 2) ≤ (0 : Int32) then
                j141 M11
              else
                gi ((M11.1 4 0 2) - (1 : Int32)) 64 <|
                cl (m_X3_rank F (M11.1 39 0 (Int32.toNatClampNeg ((M11.1 4 0 2) - (1 : Int32)))) M11) fun x13 M12 =>
                if x13 = x6 then
                  some ((1 : Int32), M12)
                else
                  j141 M12))
def m_X3_partCode (F : Nat) (M : mm) : Option (Int32 × mm) :=
  if (M.1 7 0 4) = (3 : Int32) then
    some ((M.1 7 0 6), M)
  else
    cb (m_X6_isSign F (40 : Int32) M) fun b2 M1 =>
    if b2 = true then
      some ((-13 : Int32), M1)
    else
      cb (m_X6_isWord F (22 : Int32) M1) fun b4 M3 =>
      if b4 = true then
        some ((-5 : Int32), M3)
      else
        bd (
          nm (fun (z : Unit) => match z with
            | () =>
              some (0 : Int32)) fun j76 =>
          if (M3.1 7 0 4) = (2 : Int32) then
            if (M3.1 7 0 7) < (25 : Int32) then
              j76 ()
            else
              some (1 : Int32)
          else
            j76 ()
        ) (fun x5 =>
            if x5 = (0 : Int32) then
              some ((-14 : Int32), M3)
            else
              some (((-1 : Int32) - ((M3.1 7 0 7) - (25 : Int32))), M3))
def m_X3_readPart (F : Nat) (M : mm) : Option (Int32 × mm) :=
  cl (m_X3_partCode F M) fun x2 M1 =>
  if x2 = (-14 : Int32) then
    some ((1 : Int32), M1)
  else if (M1.1 4 0 3) < (5 : Int32) then
    nm (fun (z : Unit) => match z with
      | () =>
        cv (m_X3_push F x2 M1) fun M5 =>
        nm (sI M5 4 0 3 ((M5.1 4 0 3) + (1 : Int32))) fun M6 =>
        bd (
          if x2 = (-13 : Int32) then
            some (1 : Int32)
          else
            some (0 : Int32)
        ) (fun x7 =>
            nm (sI M6 4 0 4 ((M6.1 4 0 4) + x7)) fun M8 =>
            some ((0 : Int32), M8))) fun j35 =>
    if x2 = (-5 : Int32) then
      j35 ()
    else if x2 = (-13 : Int32) then
      j35 ()
    else
      cv (m_X2_add F (M1.2.2 4 0 6) x2 M1) fun M3 =>
      cv (m_X3_endPart F M3) fun M4 =>
      some ((0 : Int32), M4)
  else
    some ((5 : Int32), M1)
def b_X3_read_1c (F : Nat) (x7 : Int32) (M8 : mm) : Option ((Int32 × mm) ⊕ ((mm) ⊕ (Int32 × mm) ⊕ (mm))) :=
  if (1000 : Int32) < x7 then
    some (.inr (.inr (.inr M8)))
  else
    nm (fun (M11 : mm) =>
      bd (
        if (M11.1 4 0 5) = (0 : Int32) then
          cl (m_X3_readJoint F M11) fun x13 M12 =>
          some (x13, M12)
        else
          cl (m_X3_readPart F M11) fun x15 M14 =>
          some (x15, M14)
      ) (fun z => match z with
          | (x16, M17) =>
            if x16 = (0 : Int32) then
              cv (m_X6_next F M17) fun M18 =>
              some (.inl ((x7 + (1 : Int32)), M18))
            else
              some (.inr (.inr (.inl (x16, M17)))))) fun j74 =>
    if (M8.1 4 0 5) = (0 : Int32) then
      if (M8.1 4 0 4) = (0 : Int32) then
        cb (m_X6_isSign F (59 : Int32) M8) fun b10 M9 =>
        if b10 = true then
          some (.inr (.inl M9))
        else
          j74 M9
      else
        j74 M8
    else
      j74 M8
def b_X3_read_1 (F : Nat) : (Int32 × mm) → Option ((Int32 × mm) ⊕ ((mm) ⊕ (Int32 × mm) ⊕ (mm))) := fun z => b_X3_read_1c F z.1 z.2
def m_X3_read (F : Nat) (a1 : Nat) (M : mm) : Option (Int32 × mm) :=
  nm (sR M 4 0 6 a1) fun M1 =>
  cv (m_X2_renew F (M1.2.2 4 0 6) M1) fun M2 =>
  nm (sI M2 4 0 2 (0 : Int32)) fun M3 =>
  nm (sI M3 4 0 3 (0 : Int32)) fun M4 =>
  nm (sI M4 4 0 4 (0 : Int32)) fun M5 =>
  nm (sI M5 4 0 5 (1 : Int32)) fun M6 =>
  bd (lp (b_X3_read_1 F) F ((0 : Int32), M6))
    (Sum.elim
      (fun M19 =>
        cv (m_X3_settle F (1 : Int32) M19) fun M20 =>
        some ((0 : Int32), M20))
      (Sum.elim
        (fun z => match z with
          | (x21, M22) =>
            some (x21, M22))
        (fun M23 =>
          some ((1 : Int32), M23))))
def m_X5_readAge (F : Nat) (M : mm) : Option (Bool × mm) :=
  if (M.1 3 (M.2.2 6 0 2) 2) = (0 : Int32) then
    cv (m_X6_next F M) fun M1 =>
    cl (m_X3_read F (M1.2.2 6 0 2) M1) fun x3 M2 =>
    if x3 = (0 : Int32) then
      cb (m_X5_takeEnd F M2) fun b7 M6 =>
      some (b7, M6)
    else
      cb (m_X5_wrong F x3 M2) fun b5 M4 =>
      some (b5, M4)
  else
    cb (m_X5_wrong F (3 : Int32) M) fun b9 M8 =>
    some (b9, M8)
def m_X5_readMend (F : Nat) (M : mm) : Option (Bool × mm) :=
  if (M.1 3 (M.2.2 6 0 2) 1) = (0 : Int32) then
    cv (m_X6_next F M) fun M1 =>
    cb (m_X5_takeNumber F (0 : Int32) (10 : Int32) M1) fun b3 M2 =>
    if b3 = true then
      nm (sI M2 3 (M2.2.2 6 0 2) 0 (M2.1 6 0 5)) fun M4 =>
      nm (sI M4 3 (M4.2.2 6 0 2) 1 (1 : Int32)) fun M5 =>
      cb (m_X5_takeEnd F M5) fun b7 M6 =>
      some (b7, M6)
    else
      some (false, M2)
  else
    cb (m_X5_wrong F (3 : Int32) M) fun b9 M8 =>
    some (b9, M8)
def m_X5_readCityLine (F : Nat) (M : mm) : Option (Bool × mm) :=
  nm (M.1 7 0 7) fun x1 =>
  if x1 = (0 : Int32) then
    cb (m_X5_readPerson F M) fun b3 M2 =>
    some (b3, M2)
  else if x1 = (1 : Int32) then
    cb (m_X5_wrong F (1 : Int32) M) fun b5 M4 =>
    some (b5, M4)
  else if x1 = (2 : Int32) then
    cb (m_X5_wrong F (1 : Int32) M) fun b7 M6 =>
    some (b7, M6)
  else if x1 = (3 : Int32) then
    cb (m_X5_readOath F M) fun b9 M8 =>
    some (b9, M8)
  else if x1 = (4 : Int32) then
    cb (m_X5_wrong F (1 : Int32) M) fun b11 M10 =>
    some (b11, M10)
  else if x1 = (5 : Int32) then
    cb (m_X5_wrong F (1 : Int32) M) fun b13 M12 =>
    some (b13, M12)
  else if x1 = (6 : Int32) then
    cb (m_X5_readLean F M) fun b15 M14 =>
    some (b15, M14)
  else if x1 = (7 : Int32) then
    cb (m_X5_readClash F M) fun b17 M16 =>
    some (b17, M16)
  else if x1 = (8 : Int32) then
    cb (m_X5_readStone F M) fun b19 M18 =>
    some (b19, M18)
  else if x1 = (9 : Int32) then
    cb (m_X5_wrong F (1 : Int32) M) fun b21 M20 =>
    some (b21, M20)
  else if x1 = (10 : Int32) then
    cb (m_X5_wrong F (1 : Int32) M) fun b23 M22 =>
    some (b23, M22)
  else if x1 = (11 : Int32) then
    cb (m_X5_wrong F (1 : Int32) M) fun b25 M24 =>
    some (b25, M24)
  else if x1 = (12 : Int32) then
    cb (m_X5_readAge F M) fun b27 M26 =>
    some (b27, M26)
  else if x1 = (13 : Int32) then
    cb (m_X5_readMend F M) fun b29 M28 =>
    some (b29, M28)
  else
    cb (m_X5_wrong F (1 : Int32) M) fun b31 M30 =>
    some (b31, M30)
def b_X5_readCity_1c (F : Nat) (x5 : Int32) (M6 : mm) : Option ((Int32 × mm) ⊕ ((mm) ⊕ (mm))) :=
  if (1000 : Int32) < x5 then
    some (.inr (.inr M6))
  else if (M6.1 7 0 4) = (0 : Int32) then
    some (.inr (.inr M6))
  else
    cb (m_X5_readCityLine F M6) fun b8 M7 =>
    if b8 = true then
      some (.inl ((x5 + (1 : Int32)), M7))
    else
      some (.inr (.inl M7))
def b_X5_readCity_1 (F : Nat) : (Int32 × mm) → Option ((Int32 × mm) ⊕ ((mm) ⊕ (mm))) := fun z => b_X5_readCity_1c F z.1 z.2
def m_X5_readCity (F : Nat) (a1 : Nat) (M : mm) : Option (Int32 × mm) :=
  nm (sR M 6 0 2 a1) fun M1 =>
  cv (m_X0_clear F (M1.2.2 6 0 2) M1) fun M2 =>
  nm (sI M2 6 0 4 (0 : Int32)) fun M3 =>
  cv (m_X6_start F M3) fun M4 =>
  bd (lp (b_X5_readCity_1 F) F ((0 : Int32), M4))
    (Sum.elim
      (fun M9 =>
        some ((M9.1 6 0 4), M9))
      (fun M10 =>
        some ((0 : Int32), M10)))
def m_X6_clear (F : Nat) (M : mm) : Option (mm) :=
  nm (sI M 7 0 2 (0 : Int32)) fun M1 =>
  nm (sI M1 7 0 3 (0 : Int32)) fun M2 =>
  some M2
def m_X8_clear (F : Nat) (o : Nat) (M : mm) : Option (mm) :=
  nm (sI M 9 o 0 (0 : Int32)) fun M1 =>
  nm (sI M1 9 o 3 (0 : Int32)) fun M2 =>
  nm (sI M2 9 o 4 (0 : Int32)) fun M3 =>
  nm (sI M3 9 o 5 (0 : Int32)) fun M4 =>
  some M4
def m_X10_forget (F : Nat) (M : mm) : Option (mm) :=
  nm (sI M 11 0 7 (0 : Int32)) fun M1 =>
  some M1
def m_X2_plainWorth (F : Nat) (a1 : Int32) (a2 : Int32) (a3 : Int32) (a4 : Int32) (M : mm) : Option (Int32 × mm) :=
  if a3 = (1 : Int32) then
    some ((a1 + a2), M)
  else
    nm (fun (z : Unit) => match z with
      | () =>
        some (a1, M)) fun j24 =>
    if a3 = (3 : Int32) then
      if a4 = (0 : Int32) then
        j24 ()
      else
        some (((2 : Int32) * a1), M)
    else
      j24 ()
def m_X2_joined (F : Nat) (a1 : Int32) (a2 : Int32) (a3 : Int32) (M : mm) : Option (Int32 × mm) :=
  if a1 = (-11 : Int32) then
    some ((a2 - a3), M)
  else if a1 = (-10 : Int32) then
    some ((a2 + a3), M)
  else if a1 = (-9 : Int32) then
    if a2 = a3 then
      some ((1 : Int32), M)
    else
      some ((0 : Int32), M)
  else if a1 = (-8 : Int32) then
    if a3 ≤ a2 then
      some ((0 : Int32), M)
    else
      some ((1 : Int32), M)
  else if a1 = (-7 : Int32) then
    if a2 = (0 : Int32) then
      if a3 = (0 : Int32) then
        some ((0 : Int32), M)
      else
        some ((1 : Int32), M)
    else
      some ((1 : Int32), M)
  else if a1 = (-6 : Int32) then
    if a2 = (0 : Int32) then
      some ((0 : Int32), M)
    else if a3 = (0 : Int32) then
      some ((0 : Int32), M)
    else
      some ((1 : Int32), M)
  else
    some ((a2 * a3), M)
def b_X2_note_1c (F : Nat) (o : Nat) (a3 : Int32) (a4 : Int32) (x1 : Int32) (x2 : Int32) (x7 : Int32) (x8 : Int32) (M9 : mm) : Option ((Int32 × Int32 × mm) ⊕ (Int32 × mm)) :=
  if (M9.1 3 o 4) ≤ x8 then
    some (.inr (x7, M9))
  else
    gi x8 1000 <|
    nm (M9.1 35 o (Int32.toNatClampNeg x8)) fun x10 =>
    bd (
      nm (fun (z : Unit) => match z with
        | () =>
          nm (fun (z : Unit) => match z with
            | () =>
              if (-5 : Int32) ≤ x10 then
                some (x7, M9)
              else if x7 ≤ (1 : Int32) then
                some (x7, M9)
              else
                gi ((x7 + (-1 : Int32)) - (1 : Int32)) 64 <|
                gi (x7 + (-1 : Int32)) 64 <|
                cl (m_X2_joined F x10 (M9.1 36 o (Int32.toNatClampNeg ((x7 + (-1 : Int32)) - (1 : Int32)))) (M9.1 36 o (Int32.toNatClampNeg (x7 + (-1 : Int32)))) M9) fun x16 M15 =>
                gi ((x7 + (-1 : Int32)) - (1 : Int32)) 64 <|
                nm (sI M15 36 o (Int32.toNatClampNeg ((x7 + (-1 : Int32)) - (1 : Int32))) x16) fun M17 =>
                some ((x7 + (-1 : Int32)), M17)) fun j180 =>
          if x10 = (-5 : Int32) then
            if x7 ≤ (0 : Int32) then
              j180 ()
            else
              gi (x7 - (1 : Int32)) 64 <|
              bd (
                if (M9.1 36 o (Int32.toNatClampNeg (x7 - (1 : Int32)))) = (0 : Int32) then
                  some (1 : Int32)
                else
                  some (0 : Int32)
              ) (fun x13 =>
                  gi (x7 - (1 : Int32)) 64 <|
                  nm (sI M9 36 o (Int32.toNatClampNeg (x7 - (1 : Int32))) x13) fun M14 =>
                  some (x7, M14))
          else
            j180 ()) fun j139 =>
      if x10 ≤ (-5 : Int32) then
        j139 ()
      else if (64 : Int32) ≤ x7 then
        j139 ()
      else
        bd (
          if x10 < (0 : Int32) then
            if x10 = (-1 : Int32) then
              some x1
            else if x10 = (-2 : Int32) then
              some a3
            else if x10 = (-3 : Int32) then
              some x2
            else
              some a4
          else
            some x10
        ) (fun x11 =>
            gi x7 64 <|
            nm (sI M9 36 o (Int32.toNatClampNeg x7) x11) fun M12 =>
            some ((x7 + (1 : Int32)), M12))
    ) (fun z => match z with
        | (x18, M19) =>
          some (.inl (x18, (x8 + (1 : Int32)), M19)))
def b_X2_note_1 (F : Nat) (o : Nat) (a3 : Int32) (a4 : Int32) (x1 : Int32) (x2 : Int32) : (Int32 × Int32 × mm) → Option ((Int32 × Int32 × mm) ⊕ (Int32 × mm)) := fun z => b_X2_note_1c F o a3 a4 x1 x2 z.1 z.2.1 z.2.2
def m_X2_note (F : Nat) (o : Nat) (a1 : Nat) (a2 : Int32) (a3 : Int32) (a4 : Int32) (M : mm) : Option (mm) :=
  gi a2 10 <|
  nm (M.1 27 a1 (Int32.toNatClampNeg a2)) fun x1 =>
  gi a2 10 <|
  nm (M.1 25 a1 (Int32.toNatClampNeg a2)) fun x2 =>
  bd (
    if (M.1 3 o 2) = (0 : Int32) then
      cl (m_X2_plainWorth F x1 a3 x2 a4 M) fun x4 M3 =>
      some (x4, M3)
    else
      some ((0 : Int32), M)
  ) (fun z => match z with
      | (x5, M6) =>
        bd (lp (b_X2_note_1 F o a3 a4 x1 x2) F ((0 : Int32), (0 : Int32), M6))
          (fun z => match z with
            | (x20, M21) =>
              bd (
                if x20 ≤ (0 : Int32) then
                  some x5
                else
                  gi (0 : Int32) 64 <|
                  some (M21.1 36 o (Int32.toNatClampNeg (0 : Int32)))
              ) (fun x22 =>
                  bd (
                    if (0 : Int32) ≤ x22 then
                      if x22 ≤ (999 : Int32) then
                        some x22
                      else
                        some (999 : Int32)
                    else
                      some (0 : Int32)
                  ) (fun x23 =>
                      gi (((2 : Int32) * a2) + a4) 20 <|
                      nm (sI M21 37 o (Int32.toNatClampNeg (((2 : Int32) * a2) + a4)) x23) fun M24 =>
                      gi (((2 : Int32) * a2) + a4) 20 <|
                      nm (sI M24 38 o (Int32.toNatClampNeg (((2 : Int32) * a2) + a4)) a3) fun M25 =>
                      some M25))))
def m_X0_strengthOf (F : Nat) (o : Nat) (a1 : Int32) (a2 : Nat) (M : mm) : Option (Int32 × mm) :=
  if (((M.1 5 a2 1) >>> (a1 &&& 31)) &&& (1 : Int32)) = (0 : Int32) then
    gi a1 10 <|
    nm (M.1 28 o (Int32.toNatClampNeg a1)) fun x1 =>
    nm (fun (z : Unit) => match z with
      | () =>
        gi a1 10 <|
        gi (M.1 26 o (Int32.toNatClampNeg a1)) 6 <|
        nm (((M.1 23 o (Int32.toNatClampNeg (M.1 26 o (Int32.toNatClampNeg a1)))) &&& ((M.1 5 a2 1) ^^^ (-1 : Int32))) &&& (((1 : Int32) <<< (a1 &&& 31)) ^^^ (-1 : Int32))) fun x2 =>
        bd (
          if x2 = (0 : Int32) then
            some (1 : Int32)
          else
            some (0 : Int32)
        ) (fun x3 =>
            gi (((2 : Int32) * a1) + x3) 20 <|
            bd (
              if (M.1 38 o (Int32.toNatClampNeg (((2 : Int32) * a1) + x3))) = (M.1 5 a2 0) then
                some M
              else
                cv (m_X2_note F o o a1 (M.1 5 a2 0) x3 M) fun M4 =>
                some M4
            ) (fun M5 =>
                gi (((2 : Int32) * a1) + x3) 20 <|
                nm (M5.1 37 o (Int32.toNatClampNeg (((2 : Int32) * a1) + x3))) fun x6 =>
                bd (
                  if (((M5.1 5 a2 2) >>> (a1 &&& 31)) &&& (1 : Int32)) = (0 : Int32) then
                    some x6
                  else
                    nm ((x6 * (M5.1 3 o 0)) / (10 : Int32)) fun x7 =>
                    some x7
                ) (fun x8 =>
                    if x1 = (-1 : Int32) then
                      some (x8, M5)
                    else
                      some ((x8 + (5 : Int32)), M5))))) fun j38 =>
    if x1 = (-1 : Int32) then
      j38 ()
    else if (((M.1 5 a2 1) >>> (x1 &&& 31)) &&& (1 : Int32)) = (0 : Int32) then
      j38 ()
    else
      some ((0 : Int32), M)
  else
    some ((0 : Int32), M)
def b_X9_settle_2c (F : Nat) (x1 : Int32) (x4 : Int32) (M2 : mm) (x5 : Int32) (x6 : Int32) : Option ((Int32 × Int32) ⊕ (Int32)) :=
  if x1 ≤ x6 then
    some (.inr x5)
  else
    bd (
      if ((x4 >>> (x6 &&& 31)) &&& (1 : Int32)) = (0 : Int32) then
        some (0 : Int32)
      else
        gi x6 11 <|
        some (M2.1 47 0 (Int32.toNatClampNeg x6))
    ) (fun x7 =>
        nm (x5 ||| x7) fun x8 =>
        some (.inl (x8, (x6 + (1 : Int32)))))
def b_X9_settle_2 (F : Nat) (x1 : Int32) (x4 : Int32) (M2 : mm) : (Int32 × Int32) → Option ((Int32 × Int32) ⊕ (Int32)) := fun z => b_X9_settle_2c F x1 x4 M2 z.1 z.2
def b_X9_settle_1c (F : Nat) (a1 : Nat) (a2 : Int32) (x1 : Int32) (M2 : mm) : Option ((Int32 × mm) ⊕ (mm)) :=
  if (M2.1 1 a1 13) ≤ x1 then
    some (.inr M2)
  else
    gi x1 10 <|
    nm (M2.1 33 a1 (Int32.toNatClampNeg x1)) fun x3 =>
    gi x1 10 <|
    nm ((M2.1 34 a1 (Int32.toNatClampNeg x1)) &&& a2) fun x4 =>
    bd (lp (b_X9_settle_2 F x1 x4 M2) F (x3, (0 : Int32)))
      (fun x9 =>
        gi x1 11 <|
        nm (sI M2 47 0 (Int32.toNatClampNeg x1) x9) fun M10 =>
        some (.inl ((x1 + (1 : Int32)), M10)))
def b_X9_settle_1 (F : Nat) (a1 : Nat) (a2 : Int32) : (Int32 × mm) → Option ((Int32 × mm) ⊕ (mm)) := fun z => b_X9_settle_1c F a1 a2 z.1 z.2
def m_X9_settle (F : Nat) (a1 : Nat) (a2 : Int32) (M : mm) : Option (mm) :=
  bd (lp (b_X9_settle_1 F a1 a2) F ((0 : Int32), M))
    (fun M11 =>
      some M11)
def b_X9_reach_1c (F : Nat) (a1 : Int32) (a2 : Int32) (x1 : Int32) (x2 : Int32) (M3 : mm) : Option ((Int32 × Int32 × mm) ⊕ (Int32 × mm)) :=
  if (10 : Int32) ≤ x2 then
    some (.inr (x1, M3))
  else
    gi a1 11 <|
    bd (
      if (((M3.1 47 0 (Int32.toNatClampNeg a1)) &&& (a2 ^^^ (-1 : Int32))) &&& ((1 : Int32) <<< (x2 &&& 31))) = (0 : Int32) then
        some (x1, M3)
      else if (10 : Int32) ≤ x1 then
        some (x1, M3)
      else
        gi x1 10 <|
        nm (sI M3 52 0 (Int32.toNatClampNeg x1) x2) fun M4 =>
        gi x2 10 <|
        nm (sI M4 53 0 (Int32.toNatClampNeg x2) a1) fun M5 =>
        some ((x1 + (1 : Int32)), M5)
    ) (fun z => match z with
        | (x6, M7) =>
          some (.inl (x6, (x2 + (1 : Int32)), M7)))
def b_X9_reach_1 (F : Nat) (a1 : Int32) (a2 : Int32) : (Int32 × Int32 × mm) → Option ((Int32 × Int32 × mm) ⊕ (Int32 × mm)) := fun z => b_X9_reach_1c F a1 a2 z.1 z.2.1 z.2.2
def m_X9_reach (F : Nat) (a1 : Int32) (a2 : Int32) (a3 : Int32) (M : mm) : Option (Int32 × mm) :=
  bd (lp (b_X9_reach_1 F a1 a2) F (a3, (0 : Int32), M))
    (fun z => match z with
      | (x8, M9) =>
        some (x8, M9))
def b_X9_moveOver_1c (F : Nat) (a1 : Int32) (M : mm) (x2 : Int32) (x3 : Int32) (x4 : Int32) : Option ((Int32 × Int32 × Int32) ⊕ (Int32)) :=
  if (11 : Int32) ≤ x4 then
    some (.inr x2)
  else
    gi x3 10 <|
    if (M.1 53 0 (Int32.toNatClampNeg x3)) = a1 then
      some (.inr x2)
    else
      gi x3 10 <|
      nm (M.1 53 0 (Int32.toNatClampNeg x3)) fun x5 =>
      gi x5 11 <|
      nm (M.1 54 0 (Int32.toNatClampNeg x5)) fun x6 =>
      gi ((x5 * (10 : Int32)) + x6) 110 <|
      nm (M.1 49 0 (Int32.toNatClampNeg ((x5 * (10 : Int32)) + x6))) fun x7 =>
      bd (
        if x2 ≤ x7 then
          some x2
        else
          some x7
      ) (fun x8 =>
          some (.inl (x8, x6, (x4 + (1 : Int32)))))
def b_X9_moveOver_1 (F : Nat) (a1 : Int32) (M : mm) : (Int32 × Int32 × Int32) → Option ((Int32 × Int32 × Int32) ⊕ (Int32)) := fun z => b_X9_moveOver_1c F a1 M z.1 z.2.1 z.2.2
def b_X9_moveOver_2c (F : Nat) (a1 : Int32) (x9 : Int32) (x11 : Int32) (x12 : Int32) (M13 : mm) : Option ((Int32 × Int32 × mm) ⊕ (Int32 × mm)) :=
  if (11 : Int32) ≤ x12 then
    some (.inr (x11, M13))
  else
    gi x11 10 <|
    if (M13.1 53 0 (Int32.toNatClampNeg x11)) = a1 then
      some (.inr (x11, M13))
    else
      gi x11 10 <|
      nm (M13.1 53 0 (Int32.toNatClampNeg x11)) fun x14 =>
      gi ((x14 * (10 : Int32)) + x11) 110 <|
      gi ((x14 * (10 : Int32)) + x11) 110 <|
      nm (sI M13 49 0 (Int32.toNatClampNeg ((x14 * (10 : Int32)) + x11)) ((M13.1 49 0 (Int32.toNatClampNeg ((x14 * (10 : Int32)) + x11))) + x9)) fun M15 =>
      gi x14 11 <|
      nm (M15.1 54 0 (Int32.toNatClampNeg x14)) fun x16 =>
      gi ((x14 * (10 : Int32)) + x16) 110 <|
      gi ((x14 * (10 : Int32)) + x16) 110 <|
      nm (sI M15 49 0 (Int32.toNatClampNeg ((x14 * (10 : Int32)) + x16)) ((M15.1 49 0 (Int32.toNatClampNeg ((x14 * (10 : Int32)) + x16))) - x9)) fun M17 =>
      some (.inl (x16, (x12 + (1 : Int32)), M17))
def b_X9_moveOver_2 (F : Nat) (a1 : Int32) (x9 : Int32) : (Int32 × Int32 × mm) → Option ((Int32 × Int32 × mm) ⊕ (Int32 × mm)) := fun z => b_X9_moveOver_2c F a1 x9 z.1 z.2.1 z.2.2
def m_X9_moveOver (F : Nat) (a1 : Int32) (a2 : Int32) (a3 : Int32) (M : mm) : Option (Int32 × mm) :=
  gi a2 10 <|
  bd (
    if (M.1 48 0 (Int32.toNatClampNeg a2)) ≤ a3 then
      gi a2 10 <|
      some (M.1 48 0 (Int32.toNatClampNeg a2))
    else
      some a3
  ) (fun x1 =>
      bd (lp (b_X9_moveOver_1 F a1 M) F (x1, a2, (0 : Int32)))
        (fun x9 =>
          gi a2 10 <|
          gi a2 10 <|
          nm (sI M 48 0 (Int32.toNatClampNeg a2) ((M.1 48 0 (Int32.toNatClampNeg a2)) - x9)) fun M10 =>
          bd (lp (b_X9_moveOver_2 F a1 x9) F (a2, (0 : Int32), M10))
            (fun z => match z with
              | (x18, M19) =>
                gi ((a1 * (10 : Int32)) + x18) 110 <|
                gi ((a1 * (10 : Int32)) + x18) 110 <|
                nm (sI M19 49 0 (Int32.toNatClampNeg ((a1 * (10 : Int32)) + x18)) ((M19.1 49 0 (Int32.toNatClampNeg ((a1 * (10 : Int32)) + x18))) + x9)) fun M20 =>
                some (x9, M20))))
def b_X9_makeRoom_2c (F : Nat) (x10 : Int32) (x11 : Int32) (x12 : Int32) (x13 : Int32) (x14 : Int32) (M15 : mm) : Option ((Int32 × Int32 × Int32 × Int32 × mm) ⊕ (Int32 × Int32 × Int32 × mm)) :=
  if (11 : Int32) ≤ x14 then
    some (.inr (x11, x12, x13, M15))
  else
    bd (
      if (((M15.1 10 0 5) &&& (x13 ^^^ (-1 : Int32))) &&& ((1 : Int32) <<< (x14 &&& 31))) = (0 : Int32) then
        some (x11, x12, x13, M15)
      else
        gi ((x14 * (10 : Int32)) + x10) 110 <|
        if (M15.1 49 0 (Int32.toNatClampNeg ((x14 * (10 : Int32)) + x10))) ≤ (0 : Int32) then
          some (x11, x12, x13, M15)
        else
          nm (x13 ||| ((1 : Int32) <<< (x14 &&& 31))) fun x16 =>
          gi x14 11 <|
          nm (sI M15 54 0 (Int32.toNatClampNeg x14) x10) fun M17 =>
          cl (m_X9_reach F x14 x12 x11 M17) fun x19 M18 =>
          gi x14 11 <|
          nm (x12 ||| (M18.1 47 0 (Int32.toNatClampNeg x14))) fun x20 =>
          some (x19, x20, x16, M18)
    ) (fun z => match z with
        | (x21, x22, x23, M24) =>
          some (.inl (x21, x22, x23, (x14 + (1 : Int32)), M24)))
def b_X9_makeRoom_2 (F : Nat) (x10 : Int32) : (Int32 × Int32 × Int32 × Int32 × mm) → Option ((Int32 × Int32 × Int32 × Int32 × mm) ⊕ (Int32 × Int32 × Int32 × mm)) := fun z => b_X9_makeRoom_2c F x10 z.1 z.2.1 z.2.2.1 z.2.2.2.1 z.2.2.2.2
def b_X9_makeRoom_1c (F : Nat) (x5 : Int32) (x6 : Int32) (x7 : Int32) (x8 : Int32) (M9 : mm) : Option ((Int32 × Int32 × Int32 × Int32 × mm) ⊕ ((Int32 × mm) ⊕ (mm))) :=
  if x5 ≤ x8 then
    some (.inr (.inr M9))
  else if (10 : Int32) ≤ x8 then
    some (.inr (.inr M9))
  else
    gi x8 10 <|
    nm (M9.1 52 0 (Int32.toNatClampNeg x8)) fun x10 =>
    gi x10 10 <|
    if (M9.1 48 0 (Int32.toNatClampNeg x10)) ≤ (0 : Int32) then
      bd (lp (b_X9_makeRoom_2 F x10) F (x5, x6, x7, (0 : Int32), M9))
        (fun z => match z with
          | (x25, x26, x27, M28) =>
            some (.inl (x25, x26, x27, (x8 + (1 : Int32)), M28)))
    else
      some (.inr (.inl (x10, M9)))
def b_X9_makeRoom_1 (F : Nat) : (Int32 × Int32 × Int32 × Int32 × mm) → Option ((Int32 × Int32 × Int32 × Int32 × mm) ⊕ ((Int32 × mm) ⊕ (mm))) := fun z => b_X9_makeRoom_1c F z.1 z.2.1 z.2.2.1 z.2.2.2.1 z.2.2.2.2
def m_X9_makeRoom (F : Nat) (a1 : Int32) (a2 : Int32) (M : mm) : Option (Int32 × mm) :=
  cl (m_X9_reach F a1 (0 : Int32) (0 : Int32) M) fun x2 M1 =>
  gi a1 11 <|
  nm (M1.1 47 0 (Int32.toNatClampNeg a1)) fun x3 =>
  nm ((1 : Int32) <<< (a1 &&& 31)) fun x4 =>
  bd (lp (b_X9_makeRoom_1 F) F (x2, x3, x4, (0 : Int32), M1))
    (Sum.elim
      (fun z => match z with
        | (x29, M30) =>
          cl (m_X9_moveOver F a1 x29 a2 M30) fun x32 M31 =>
          some (x32, M31))
      (fun M33 =>
        some ((0 : Int32), M33)))
def b_X9_lay_1c (F : Nat) (a1 : Int32) (x1 : Int32) (x2 : Int32) (M3 : mm) : Option ((Int32 × Int32 × mm) ⊕ (Int32 × mm)) :=
  if (10 : Int32) ≤ x2 then
    some (.inr (x1, M3))
  else
    gi a1 11 <|
    bd (
      if (((M3.1 47 0 (Int32.toNatClampNeg a1)) >>> (x2 &&& 31)) &&& (1 : Int32)) = (0 : Int32) then
        some (x1, (0 : Int32), M3)
      else
        gi x2 10 <|
        bd (
          if (M3.1 48 0 (Int32.toNatClampNeg x2)) ≤ x1 then
            gi x2 10 <|
            some (M3.1 48 0 (Int32.toNatClampNeg x2))
          else
            some x1
        ) (fun x4 =>
            gi x2 10 <|
            gi x2 10 <|
            nm (sI M3 48 0 (Int32.toNatClampNeg x2) ((M3.1 48 0 (Int32.toNatClampNeg x2)) - x4)) fun M5 =>
            nm (x1 - x4) fun x6 =>
            some (x6, x4, M5))
    ) (fun z => match z with
        | (x7, x8, M9) =>
          gi ((a1 * (10 : Int32)) + x2) 110 <|
          nm (sI M9 49 0 (Int32.toNatClampNeg ((a1 * (10 : Int32)) + x2)) x8) fun M10 =>
          some (.inl (x7, (x2 + (1 : Int32)), M10)))
def b_X9_lay_1 (F : Nat) (a1 : Int32) : (Int32 × Int32 × mm) → Option ((Int32 × Int32 × mm) ⊕ (Int32 × mm)) := fun z => b_X9_lay_1c F a1 z.1 z.2.1 z.2.2
def b_X9_lay_2c (F : Nat) (a1 : Int32) (a2 : Int32) (x14 : Int32) (x15 : Int32) (M16 : mm) : Option ((Int32 × Int32 × mm) ⊕ ((Int32 × mm) ⊕ (Int32 × mm))) :=
  if a2 ≤ x15 then
    some (.inr (.inr (x14, M16)))
  else if x14 ≤ (0 : Int32) then
    some (.inr (.inr (x14, M16)))
  else
    cl (m_X9_makeRoom F a1 x14 M16) fun x18 M17 =>
    if x18 = (0 : Int32) then
      some (.inr (.inl (x14, M17)))
    else
      nm (x14 - x18) fun x19 =>
      some (.inl (x19, (x15 + (1 : Int32)), M17))
def b_X9_lay_2 (F : Nat) (a1 : Int32) (a2 : Int32) : (Int32 × Int32 × mm) → Option ((Int32 × Int32 × mm) ⊕ ((Int32 × mm) ⊕ (Int32 × mm))) := fun z => b_X9_lay_2c F a1 a2 z.1 z.2.1 z.2.2
def m_X9_lay (F : Nat) (a1 : Int32) (a2 : Int32) (M : mm) : Option (Int32 × mm) :=
  bd (lp (b_X9_lay_1 F a1) F (a2, (0 : Int32), M))
    (fun z => match z with
      | (x11, M12) =>
        nm (sI M12 10 0 5 ((M12.1 10 0 5) ||| ((1 : Int32) <<< (a1 &&& 31)))) fun M13 =>
        bd (lp (b_X9_lay_2 F a1 a2) F (x11, (0 : Int32), M13))
          (Sum.elim
            (fun z => match z with
              | (x20, M21) =>
                some (x20, M21))
            (fun z => match z with
              | (x22, M23) =>
                some (x22, M23))))
def b_X9_standing_1c (F : Nat) (a1 : Nat) (a2 : Nat) (x2 : Int32) (M3 : mm) : Option ((Int32 × mm) ⊕ (mm)) :=
  if (M3.1 1 a1 5) ≤ x2 then
    some (.inr M3)
  else
    cl (m_X0_strengthOf F a1 x2 a2 M3) fun x5 M4 =>
    gi x2 10 <|
    nm (sI M4 48 0 (Int32.toNatClampNeg x2) x5) fun M6 =>
    some (.inl ((x2 + (1 : Int32)), M6))
def b_X9_standing_1 (F : Nat) (a1 : Nat) (a2 : Nat) : (Int32 × mm) → Option ((Int32 × mm) ⊕ (mm)) := fun z => b_X9_standing_1c F a1 a2 z.1 z.2
def b_X9_standing_2c (F : Nat) (a1 : Nat) (a3 : Int32) (x9 : Int32) (M10 : mm) : Option ((Int32 × mm) ⊕ ((Int32 × mm) ⊕ (mm))) :=
  if (M10.1 1 a1 13) ≤ x9 then
    some (.inr (.inr M10))
  else
    nm (fun (M13 : mm) =>
      some (.inl ((x9 + (1 : Int32)), M13))) fun j89 =>
    if ((a3 >>> (x9 &&& 31)) &&& (1 : Int32)) = (0 : Int32) then
      j89 M10
    else
      gi x9 10 <|
      cl (m_X9_lay F x9 (M10.1 31 a1 (Int32.toNatClampNeg x9)) M10) fun x12 M11 =>
      if x12 ≤ (0 : Int32) then
        j89 M11
      else
        some (.inr (.inl (x9, M11)))
def b_X9_standing_2 (F : Nat) (a1 : Nat) (a3 : Int32) : (Int32 × mm) → Option ((Int32 × mm) ⊕ ((Int32 × mm) ⊕ (mm))) := fun z => b_X9_standing_2c F a1 a3 z.1 z.2
def m_X9_standing (F : Nat) (a1 : Nat) (a2 : Nat) (a3 : Int32) (M : mm) : Option (Int32 × mm) :=
  nm (sI M 10 0 5 (0 : Int32)) fun M1 =>
  bd (lp (b_X9_standing_1 F a1 a2) F ((0 : Int32), M1))
    (fun M7 =>
      cv (m_X9_settle F a1 a3 M7) fun M8 =>
      bd (lp (b_X9_standing_2 F a1 a3) F ((0 : Int32), M8))
        (Sum.elim
          (fun z => match z with
            | (x14, M15) =>
              some ((a3 &&& (((1 : Int32) <<< (x14 &&& 31)) - (1 : Int32))), M15))
          (fun M16 =>
            some (a3, M16))))
def m_X1_begin (F : Nat) (a1 : Nat) (a2 : Nat) (M : mm) : Option (mm) :=
  nm (sI M 5 a2 0 (0 : Int32)) fun M1 =>
  nm (sI M1 5 a2 1 (0 : Int32)) fun M2 =>
  nm (sI M2 5 a2 2 (0 : Int32)) fun M3 =>
  cl (m_X9_standing F a1 a2 (((1 : Int32) <<< ((M3.1 1 a1 13) &&& 31)) - (1 : Int32)) M3) fun x5 M4 =>
  nm (sI M4 5 a2 3 x5) fun M6 =>
  some M6
def m_X11_city (F : Nat) (M : mm) : Option (Int32 × mm) :=
  cl (m_X5_readCity F (M.2.2 12 0 7) M) fun x2 M1 =>
  cv (m_X6_clear F M1) fun M3 =>
  if x2 = (0 : Int32) then
    nm (M3.2.2 12 0 6) fun x4 =>
    nm (sR M3 12 0 6 (M3.2.2 12 0 7)) fun M5 =>
    nm (sR M5 12 0 7 x4) fun M6 =>
    cv (m_X8_clear F 0 M6) fun M7 =>
    nm (sI M7 12 0 14 (0 : Int32)) fun M8 =>
    nm (sI M8 12 0 17 (0 : Int32)) fun M9 =>
    cv (m_X10_forget F M9) fun M10 =>
    cv (m_X1_begin F (M10.2.2 12 0 6) 7 M10) fun M11 =>
    some ((0 : Int32), M11)
  else
    some (x2, M3)
def m_X5_seeKnown_30 (F : Nat) (a1 : Nat) (a2 : Int32) (M : mm) : Option (Bool × mm) :=
  cb (m_X6_isName F M) fun b2 M1 =>
  if b2 = true then
    cl (m_X5_find_30 F a1 a2 (M1.2.1 7 0 8) M1) fun x4 M3 =>
    nm (sI M3 6 0 6 x4) fun M5 =>
    if (M5.1 6 0 6) = (-1 : Int32) then
      cb (m_X5_wrong F (2 : Int32) M5) fun b7 M6 =>
      if b7 = true then
        some (true, M6)
      else
        some (false, M6)
    else
      some (true, M5)
  else
    cb (m_X5_wrong F (1 : Int32) M1) fun b9 M8 =>
    some (b9, M8)
def m_X8_addLine (F : Nat) (o : Nat) (a1 : Int32) (a2 : Int32) (M : mm) : Option (mm) :=
  if (40 : Int32) ≤ (M.1 9 o 0) then
    some M
  else
    gi (M.1 9 o 0) 40 <|
    nm (sI M 45 o (Int32.toNatClampNeg (M.1 9 o 0)) a1) fun M1 =>
    gi (M1.1 9 o 0) 40 <|
    nm (sI M1 46 o (Int32.toNatClampNeg (M1.1 9 o 0)) a2) fun M2 =>
    nm (sI M2 9 o 0 ((M2.1 9 o 0) + (1 : Int32))) fun M3 =>
    some M3
def m_X5_readLifeLine (F : Nat) (M : mm) : Option (Bool × mm) :=
  nm (fun (z : Unit) => match z with
    | () =>
      cb (m_X5_wrong F (1 : Int32) M) fun b18 M17 =>
      some (b18, M17)) fun j24 =>
  if (M.1 7 0 7) < (14 : Int32) then
    j24 ()
  else if (M.1 7 0 7) ≤ (17 : Int32) then
    if (M.1 9 (M.2.2 6 0 3) 0) < (40 : Int32) then
      nm ((M.1 7 0 7) - (14 : Int32)) fun x1 =>
      cv (m_X6_next F M) fun M2 =>
      nm (sI M2 6 0 6 (0 : Int32)) fun M3 =>
      nm (fun (M11 : mm) =>
        cv (m_X8_addLine F (M11.2.2 6 0 3) x1 (M11.1 6 0 6) M11) fun M12 =>
        cb (m_X5_takeEnd F M12) fun b14 M13 =>
        some (b14, M13)) fun j134 =>
      if x1 = (3 : Int32) then
        j134 M3
      else
        bd (
          if x1 = (2 : Int32) then
            cb (m_X5_seeKnown_30 F (M3.2.2 6 0 2) (M3.1 1 (M3.2.2 6 0 2) 13) M3) fun b7 M6 =>
            some ((bI b7), M6)
          else
            cb (m_X5_seeKnown_24 F (M3.2.2 6 0 2) (M3.1 1 (M3.2.2 6 0 2) 5) M3) fun b5 M4 =>
            some ((bI b5), M4)
        ) (fun z => match z with
            | (x8, M9) =>
              if x8 = (0 : Int32) then
                some (false, M9)
              else
                cv (m_X6_next F M9) fun M10 =>
                j134 M10)
    else
      cb (m_X5_wrong F (5 : Int32) M) fun b16 M15 =>
      some (b16, M15)
  else
    j24 ()
def b_X5_readLife_1c (F : Nat) (x6 : Int32) (M7 : mm) : Option ((Int32 × mm) ⊕ ((mm) ⊕ (mm))) :=
  if (1000 : Int32) < x6 then
    some (.inr (.inr M7))
  else if (M7.1 7 0 4) = (0 : Int32) then
    some (.inr (.inr M7))
  else
    cb (m_X5_readLifeLine F M7) fun b9 M8 =>
    if b9 = true then
      some (.inl ((x6 + (1 : Int32)), M8))
    else
      some (.inr (.inl M8))
def b_X5_readLife_1 (F : Nat) : (Int32 × mm) → Option ((Int32 × mm) ⊕ ((mm) ⊕ (mm))) := fun z => b_X5_readLife_1c F z.1 z.2
def m_X5_readLife (F : Nat) (a1 : Nat) (a2 : Nat) (M : mm) : Option (Int32 × mm) :=
  nm (sR M 6 0 2 a1) fun M1 =>
  nm (sR M1 6 0 3 a2) fun M2 =>
  cv (m_X8_clear F (M2.2.2 6 0 3) M2) fun M3 =>
  nm (sI M3 6 0 4 (0 : Int32)) fun M4 =>
  cv (m_X6_start F M4) fun M5 =>
  bd (lp (b_X5_readLife_1 F) F ((0 : Int32), M5))
    (Sum.elim
      (fun M10 =>
        some ((M10.1 6 0 4), M10))
      (fun M11 =>
        some ((0 : Int32), M11)))
def b_X8_copyLife_1c (F : Nat) (o : Nat) (a1 : Nat) (x2 : Int32) (M3 : mm) : Option ((Int32 × mm) ⊕ (mm)) :=
  if (40 : Int32) ≤ x2 then
    some (.inr M3)
  else
    gi x2 40 <|
    gi x2 40 <|
    nm (sI M3 45 o (Int32.toNatClampNeg x2) (M3.1 45 a1 (Int32.toNatClampNeg x2))) fun M4 =>
    gi x2 40 <|
    gi x2 40 <|
    nm (sI M4 46 o (Int32.toNatClampNeg x2) (M4.1 46 a1 (Int32.toNatClampNeg x2))) fun M5 =>
    some (.inl ((x2 + (1 : Int32)), M5))
def b_X8_copyLife_1 (F : Nat) (o : Nat) (a1 : Nat) : (Int32 × mm) → Option ((Int32 × mm) ⊕ (mm)) := fun z => b_X8_copyLife_1c F o a1 z.1 z.2
def m_X8_copyLife (F : Nat) (o : Nat) (a1 : Nat) (M : mm) : Option (mm) :=
  nm (sI M 9 o 0 (M.1 9 a1 0)) fun M1 =>
  bd (lp (b_X8_copyLife_1 F o a1) F ((0 : Int32), M1))
    (fun M6 =>
      some M6)
def m_X11_life (F : Nat) (M : mm) : Option (Int32 × mm) :=
  cl (m_X5_readLife F (M.2.2 12 0 6) 1 M) fun x2 M1 =>
  cv (m_X6_clear F M1) fun M3 =>
  if x2 = (0 : Int32) then
    cv (m_X8_copyLife F 0 1 M3) fun M4 =>
    some (x2, M4)
  else
    some (x2, M3)
def m_X11_person (F : Nat) (a1 : Int32) (a2 : Int32) (M : mm) : Option (Int32 × mm) :=
  if a1 < (0 : Int32) then
    some ((-1 : Int32), M)
  else if a1 < (M.1 1 (M.2.2 12 0 6) 0) then
    if a2 = (0 : Int32) then
      gi a1 6 <|
      some ((M.1 21 (M.2.2 12 0 6) (Int32.toNatClampNeg a1)), M)
    else if a2 = (1 : Int32) then
      gi a1 6 <|
      some ((M.1 22 (M.2.2 12 0 6) (Int32.toNatClampNeg a1)), M)
    else if a2 = (2 : Int32) then
      gi a1 6 <|
      some ((M.1 23 (M.2.2 12 0 6) (Int32.toNatClampNeg a1)), M)
    else if a2 = (3 : Int32) then
      gi a1 6 <|
      some (((M.1 23 (M.2.2 12 0 6) (Int32.toNatClampNeg a1)) &&& ((M.1 5 7 1) ^^^ (-1 : Int32))), M)
    else
      some ((-1 : Int32), M)
  else
    some ((-1 : Int32), M)
def m_X0_hasOath (F : Nat) (o : Nat) (a1 : Int32) (M : mm) : Option (Bool × mm) :=
  if a1 < (0 : Int32) then
    some (false, M)
  else if (M.1 1 o 5) ≤ a1 then
    some (false, M)
  else
    some (true, M)
def m_X11_oath (F : Nat) (a1 : Int32) (a2 : Int32) (M : mm) : Option (Int32 × mm) :=
  cb (m_X0_hasOath F (M.2.2 12 0 6) a1 M) fun b2 M1 =>
  if b2 = true then
    if a2 = (0 : Int32) then
      gi a1 10 <|
      some ((M1.1 25 (M1.2.2 12 0 6) (Int32.toNatClampNeg a1)), M1)
    else if a2 = (1 : Int32) then
      gi a1 10 <|
      some ((M1.1 26 (M1.2.2 12 0 6) (Int32.toNatClampNeg a1)), M1)
    else if a2 = (2 : Int32) then
      gi a1 10 <|
      some ((M1.1 27 (M1.2.2 12 0 6) (Int32.toNatClampNeg a1)), M1)
    else if a2 = (3 : Int32) then
      cl (m_X0_strengthOf F (M1.2.2 12 0 6) a1 7 M1) fun x4 M3 =>
      some (x4, M3)
    else if a2 = (4 : Int32) then
      some ((((M1.1 5 7 1) >>> (a1 &&& 31)) &&& (1 : Int32)), M1)
    else if a2 = (5 : Int32) then
      some ((((M1.1 5 7 2) >>> (a1 &&& 31)) &&& (1 : Int32)), M1)
    else if a2 = (6 : Int32) then
      gi a1 10 <|
      some ((M1.1 28 (M1.2.2 12 0 6) (Int32.toNatClampNeg a1)), M1)
    else if a2 = (7 : Int32) then
      gi a1 10 <|
      some ((M1.1 29 (M1.2.2 12 0 6) (Int32.toNatClampNeg a1)), M1)
    else
      some ((-1 : Int32), M1)
  else
    some ((-1 : Int32), M1)
def m_X0_hasStone (F : Nat) (o : Nat) (a1 : Int32) (M : mm) : Option (Bool × mm) :=
  if a1 < (0 : Int32) then
    some (false, M)
  else if (M.1 1 o 13) ≤ a1 then
    some (false, M)
  else
    some (true, M)
def m_X11_stone (F : Nat) (a1 : Int32) (a2 : Int32) (M : mm) : Option (Int32 × mm) :=
  cb (m_X0_hasStone F (M.2.2 12 0 6) a1 M) fun b2 M1 =>
  if b2 = true then
    if a2 = (0 : Int32) then
      gi a1 10 <|
      some ((M1.1 31 (M1.2.2 12 0 6) (Int32.toNatClampNeg a1)), M1)
    else if a2 = (1 : Int32) then
      gi a1 10 <|
      some ((M1.1 32 (M1.2.2 12 0 6) (Int32.toNatClampNeg a1)), M1)
    else if a2 = (2 : Int32) then
      some ((((M1.1 5 7 3) >>> (a1 &&& 31)) &&& (1 : Int32)), M1)
    else if a2 = (3 : Int32) then
      cv (m_X9_settle F (M1.2.2 12 0 6) (M1.1 5 7 3) M1) fun M3 =>
      gi a1 11 <|
      some ((M3.1 47 0 (Int32.toNatClampNeg a1)), M3)
    else if a2 = (4 : Int32) then
      gi a1 10 <|
      some ((M1.1 34 (M1.2.2 12 0 6) (Int32.toNatClampNeg a1)), M1)
    else
      some ((-1 : Int32), M1)
  else
    some ((-1 : Int32), M1)
def m_X4_copy (F : Nat) (o : Nat) (a1 : Nat) (M : mm) : Option (mm) :=
  nm (sI M 5 o 0 (M.1 5 a1 0)) fun M1 =>
  nm (sI M1 5 o 1 (M1.1 5 a1 1)) fun M2 =>
  nm (sI M2 5 o 2 (M2.1 5 a1 2)) fun M3 =>
  nm (sI M3 5 o 3 (M3.1 5 a1 3)) fun M4 =>
  some M4
def m_X1_crack (F : Nat) (a1 : Nat) (a2 : Nat) (a3 : Int32) (M : mm) : Option (Bool × mm) :=
  cb (m_X0_hasOath F a1 a3 M) fun b2 M1 =>
  if b2 = true then
    if ((((M1.1 5 a2 1) ||| (M1.1 1 a1 12)) >>> (a3 &&& 31)) &&& (1 : Int32)) = (0 : Int32) then
      nm (sI M1 5 a2 1 ((M1.1 5 a2 1) ||| ((1 : Int32) <<< (a3 &&& 31)))) fun M3 =>
      cl (m_X9_standing F a1 a2 (M3.1 5 a2 3) M3) fun x5 M4 =>
      nm (sI M4 5 a2 3 x5) fun M6 =>
      some (true, M6)
    else
      some (false, M1)
  else
    some (false, M1)
def m_X11_remember (F : Nat) (M : mm) : Option (mm) :=
  bd (
    if (M.1 12 0 14) = (16 : Int32) then
      nm (sI M 12 0 13 (((M.1 12 0 13) + (1 : Int32)) - ((M.1 12 0 13) + (1 : Int32)) / (16 : Int32) * (16 : Int32))) fun M1 =>
      nm (sI M1 12 0 14 ((M1.1 12 0 14) - (1 : Int32))) fun M2 =>
      some M2
    else
      some M
  ) (fun M3 =>
      gi (((M3.1 12 0 13) + (M3.1 12 0 14)) - ((M3.1 12 0 13) + (M3.1 12 0 14)) / (16 : Int32) * (16 : Int32)) 16 <|
      cv (m_X4_copy F (9 + Int32.toNatClampNeg (((M3.1 12 0 13) + (M3.1 12 0 14)) - ((M3.1 12 0 13) + (M3.1 12 0 14)) / (16 : Int32) * (16 : Int32))) 8 M3) fun M4 =>
      nm (sI M4 12 0 14 ((M4.1 12 0 14) + (1 : Int32))) fun M5 =>
      some M5)
def m_X11_breaks (F : Nat) (a1 : Int32) (M : mm) : Option (Int32 × mm) :=
  cv (m_X4_copy F 8 7 M) fun M1 =>
  cb (m_X1_crack F (M1.2.2 12 0 6) 7 a1 M1) fun b3 M2 =>
  if b3 = true then
    cv (m_X11_remember F M2) fun M4 =>
    some (((M4.1 5 8 3) &&& ((M4.1 5 7 3) ^^^ (-1 : Int32))), M4)
  else
    some ((-1 : Int32), M2)
def m_X1_pardon (F : Nat) (a1 : Nat) (a2 : Nat) (a3 : Int32) (M : mm) : Option (Bool × mm) :=
  cb (m_X0_hasOath F a1 a3 M) fun b2 M1 =>
  if b2 = true then
    if (((M1.1 5 a2 1) >>> (a3 &&& 31)) &&& (1 : Int32)) = (0 : Int32) then
      some (false, M1)
    else
      nm (sI M1 5 a2 1 ((M1.1 5 a2 1) &&& (((1 : Int32) <<< (a3 &&& 31)) ^^^ (-1 : Int32)))) fun M3 =>
      nm (sI M3 5 a2 2 ((M3.1 5 a2 2) ||| ((1 : Int32) <<< (a3 &&& 31)))) fun M4 =>
      cl (m_X9_standing F a1 a2 (M4.1 5 a2 3) M4) fun x6 M5 =>
      nm (sI M5 5 a2 3 x6) fun M7 =>
      some (true, M7)
  else
    some (false, M1)
def m_X11_forgive (F : Nat) (a1 : Int32) (M : mm) : Option (Bool × mm) :=
  cv (m_X4_copy F 8 7 M) fun M1 =>
  cb (m_X1_pardon F (M1.2.2 12 0 6) 7 a1 M1) fun b3 M2 =>
  if b3 = true then
    cv (m_X11_remember F M2) fun M4 =>
    some (true, M4)
  else
    some (false, M2)
def m_X1_lift (F : Nat) (a1 : Nat) (a2 : Nat) (a3 : Int32) (M : mm) : Option (Bool × mm) :=
  cb (m_X0_hasStone F a1 a3 M) fun b2 M1 =>
  if b2 = true then
    if (((M1.1 5 a2 3) >>> (a3 &&& 31)) &&& (1 : Int32)) = (0 : Int32) then
      nm ((M1.1 5 a2 3) ||| ((1 : Int32) <<< (a3 &&& 31))) fun x3 =>
      cl (m_X9_standing F a1 a2 x3 M1) fun x5 M4 =>
      if x5 = x3 then
        nm (sI M4 5 a2 3 x3) fun M6 =>
        some (true, M6)
      else
        some (false, M4)
    else
      some (false, M1)
  else
    some (false, M1)
def m_X11_raise (F : Nat) (a1 : Int32) (M : mm) : Option (Bool × mm) :=
  cv (m_X4_copy F 8 7 M) fun M1 =>
  cb (m_X1_lift F (M1.2.2 12 0 6) 7 a1 M1) fun b3 M2 =>
  if b3 = true then
    cv (m_X11_remember F M2) fun M4 =>
    some (true, M4)
  else
    some (false, M2)
def m_X1_pass (F : Nat) (a1 : Nat) (a2 : Nat) (M : mm) : Option (mm) :=
  nm (sI M 5 a2 0 ((M.1 5 a2 0) + (1 : Int32))) fun M1 =>
  cl (m_X9_standing F a1 a2 (M1.1 5 a2 3) M1) fun x3 M2 =>
  nm (sI M2 5 a2 3 x3) fun M4 =>
  some M4
def b_X11_years_1c (F : Nat) (a1 : Int32) (x2 : Int32) (M3 : mm) : Option ((Int32 × mm) ⊕ (mm)) :=
  if a1 ≤ x2 then
    some (.inr M3)
  else
    cv (m_X1_pass F (M3.2.2 12 0 6) 7 M3) fun M4 =>
    some (.inl ((x2 + (1 : Int32)), M4))
def b_X11_years_1 (F : Nat) (a1 : Int32) : (Int32 × mm) → Option ((Int32 × mm) ⊕ (mm)) := fun z => b_X11_years_1c F a1 z.1 z.2
def m_X11_years (F : Nat) (a1 : Int32) (M : mm) : Option (Int32 × mm) :=
  if a1 < (1 : Int32) then
    some ((-1 : Int32), M)
  else if a1 ≤ (100 : Int32) then
    cv (m_X4_copy F 8 7 M) fun M1 =>
    bd (lp (b_X11_years_1 F a1) F ((0 : Int32), M1))
      (fun M5 =>
        cv (m_X11_remember F M5) fun M6 =>
        some (((M6.1 5 8 3) &&& ((M6.1 5 7 3) ^^^ (-1 : Int32))), M6))
  else
    some ((-1 : Int32), M)
def m_X11_undo (F : Nat) (M : mm) : Option (Bool × mm) :=
  if (0 : Int32) < (M.1 12 0 14) then
    nm (sI M 12 0 14 ((M.1 12 0 14) - (1 : Int32))) fun M1 =>
    gi (((M1.1 12 0 13) + (M1.1 12 0 14)) - ((M1.1 12 0 13) + (M1.1 12 0 14)) / (16 : Int32) * (16 : Int32)) 16 <|
    cv (m_X4_copy F 7 (9 + Int32.toNatClampNeg (((M1.1 12 0 13) + (M1.1 12 0 14)) - ((M1.1 12 0 13) + (M1.1 12 0 14)) / (16 : Int32) * (16 : Int32))) M1) fun M2 =>
    some (true, M2)
  else
    some (false, M)
def m_X1_does (F : Nat) (a1 : Nat) (a2 : Nat) (a3 : Int32) (a4 : Int32) (M : mm) : Option (Bool × mm) :=
  if a3 = (0 : Int32) then
    cb (m_X1_crack F a1 a2 a4 M) fun b2 M1 =>
    some (b2, M1)
  else if a3 = (1 : Int32) then
    cb (m_X1_pardon F a1 a2 a4 M) fun b4 M3 =>
    some (b4, M3)
  else if a3 = (2 : Int32) then
    cb (m_X1_lift F a1 a2 a4 M) fun b6 M5 =>
    some (b6, M5)
  else
    cv (m_X1_pass F a1 a2 M) fun M7 =>
    some (true, M7)
def b_X7_judge_1c (F : Nat) (a1 : Nat) (a2 : Nat) (x4 : Int32) (M5 : mm) : Option ((Int32 × mm) ⊕ (mm)) :=
  if (M5.1 9 a2 0) ≤ x4 then
    some (.inr M5)
  else
    nm (M5.1 5 2 3) fun x6 =>
    gi x4 40 <|
    gi x4 40 <|
    cb (m_X1_does F a1 2 (M5.1 45 a2 (Int32.toNatClampNeg x4)) (M5.1 46 a2 (Int32.toNatClampNeg x4)) M5) fun b8 M7 =>
    bd (
      if b8 = true then
        some M7
      else if (M7.1 8 0 6) = (-1 : Int32) then
        nm (sI M7 8 0 6 x4) fun M9 =>
        some M9
      else
        some M7
    ) (fun M10 =>
        bd (
          if (x6 &&& ((M10.1 5 2 3) ^^^ (-1 : Int32))) = (0 : Int32) then
            some M10
          else if (M10.1 8 0 7) = (-1 : Int32) then
            nm (sI M10 8 0 7 x4) fun M11 =>
            some M11
          else
            some M10
        ) (fun M12 =>
            some (.inl ((x4 + (1 : Int32)), M12))))
def b_X7_judge_1 (F : Nat) (a1 : Nat) (a2 : Nat) : (Int32 × mm) → Option ((Int32 × mm) ⊕ (mm)) := fun z => b_X7_judge_1c F a1 a2 z.1 z.2
def m_X7_judge (F : Nat) (a1 : Nat) (a2 : Nat) (M : mm) : Option (mm) :=
  nm (sI M 8 0 6 (-1 : Int32)) fun M1 =>
  nm (sI M1 8 0 7 (-1 : Int32)) fun M2 =>
  cv (m_X1_begin F a1 2 M2) fun M3 =>
  bd (lp (b_X7_judge_1 F a1 a2) F ((0 : Int32), M3))
    (fun M13 =>
      nm (sI M13 8 0 8 (M13.1 5 2 3)) fun M14 =>
      some M14)
def m_X11_judged (F : Nat) (a1 : Int32) (M : mm) : Option (Int32 × mm) :=
  if a1 < (0 : Int32) then
    some ((-2 : Int32), M)
  else if a1 ≤ (2 : Int32) then
    cv (m_X7_judge F (M.2.2 12 0 6) 0 M) fun M1 =>
    if a1 = (0 : Int32) then
      some ((M1.1 8 0 6), M1)
    else if a1 = (1 : Int32) then
      some ((M1.1 8 0 7), M1)
    else
      some ((M1.1 8 0 8), M1)
  else
    some ((-2 : Int32), M)
def b_X9_most_1c (F : Nat) (a1 : Nat) (a2 : Nat) (x4 : Int32) (x5 : Int32) (M6 : mm) : Option ((Int32 × Int32 × mm) ⊕ (Int32 × mm)) :=
  if (M6.1 1 a1 13) ≤ x5 then
    some (.inr (x4, M6))
  else
    bd (
      if (((M6.1 5 a2 3) >>> (x5 &&& 31)) &&& (1 : Int32)) = (0 : Int32) then
        some (x4, M6)
      else
        gi x5 10 <|
        gi x5 10 <|
        cl (m_X9_lay F x5 (M6.1 31 a1 (Int32.toNatClampNeg x5)) M6) fun x8 M7 =>
        nm (x4 + ((M6.1 31 a1 (Int32.toNatClampNeg x5)) - x8)) fun x9 =>
        some (x9, M7)
    ) (fun z => match z with
        | (x10, M11) =>
          some (.inl (x10, (x5 + (1 : Int32)), M11)))
def b_X9_most_1 (F : Nat) (a1 : Nat) (a2 : Nat) : (Int32 × Int32 × mm) → Option ((Int32 × Int32 × mm) ⊕ (Int32 × mm)) := fun z => b_X9_most_1c F a1 a2 z.1 z.2.1 z.2.2
def m_X9_most (F : Nat) (a1 : Nat) (a2 : Nat) (M : mm) : Option (Int32 × mm) :=
  cl (m_X9_standing F a1 a2 (0 : Int32) M) fun x2 M1 =>
  cv (m_X9_settle F a1 (M1.1 5 a2 3) M1) fun M3 =>
  bd (lp (b_X9_most_1 F a1 a2) F ((0 : Int32), (0 : Int32), M3))
    (fun z => match z with
      | (x12, M13) =>
        some (x12, M13))
def m_X11_bears (F : Nat) (M : mm) : Option (Int32 × mm) :=
  cl (m_X9_most F (M.2.2 12 0 6) 7 M) fun x2 M1 =>
  some (x2, M1)
def m_X4_isLike (F : Nat) (o : Nat) (a1 : Nat) (M : mm) : Option (Bool × mm) :=
  if (M.1 5 o 0) = (M.1 5 a1 0) then
    if (M.1 5 o 1) = (M.1 5 a1 1) then
      if (M.1 5 o 2) = (M.1 5 a1 2) then
        if (M.1 5 o 3) = (M.1 5 a1 3) then
          some (true, M)
        else
          some (false, M)
      else
        some (false, M)
    else
      some (false, M)
  else
    some (false, M)
def m_X10_look (F : Nat) (a1 : Nat) (a2 : Nat) (M : mm) : Option (mm) :=
  nm (fun (M3 : mm) =>
    nm (sI M3 11 0 7 (1 : Int32)) fun M4 =>
    nm (sI M4 11 0 6 ((M4.1 11 0 6) + (1 : Int32))) fun M5 =>
    nm (sR M5 11 0 1 a1) fun M6 =>
    cv (m_X4_copy F 0 a2 M6) fun M7 =>
    nm (sI M7 11 0 8 (((((1 : Int32) <<< ((M7.1 1 (M7.2.2 11 0 1) 5) &&& 31)) - (1 : Int32)) &&& ((M7.1 1 (M7.2.2 11 0 1) 12) ^^^ (-1 : Int32))) &&& ((M7.1 5 a2 1) ^^^ (-1 : Int32)))) fun M8 =>
    some M8) fun j19 =>
  if (M.1 11 0 7) = (0 : Int32) then
    j19 M
  else
    cb (m_X4_isLike F 0 a2 M) fun b2 M1 =>
    if b2 = true then
      some M1
    else
      j19 M1
def m_X10_upIf (F : Nat) (a1 : Int32) (M : mm) : Option (Int32 × mm) :=
  nm (a1 &&& (M.1 11 0 8)) fun x1 =>
  gi x1 1024 <|
  bd (
    if (M.1 56 0 (Int32.toNatClampNeg x1)) = (M.1 11 0 6) then
      some M
    else
      cv (m_X4_copy F 1 0 M) fun M2 =>
      nm (sI M2 5 1 1 ((M2.1 5 1 1) ||| x1)) fun M3 =>
      cl (m_X9_standing F (M3.2.2 11 0 1) 1 (M3.1 5 0 3) M3) fun x5 M4 =>
      gi x1 1024 <|
      nm (sI M4 55 0 (Int32.toNatClampNeg x1) x5) fun M6 =>
      gi x1 1024 <|
      nm (sI M6 56 0 (Int32.toNatClampNeg x1) (M6.1 11 0 6)) fun M7 =>
      some M7
  ) (fun M8 =>
      gi x1 1024 <|
      some ((M8.1 55 0 (Int32.toNatClampNeg x1)), M8))
def m_X11_stands (F : Nat) (a1 : Int32) (M : mm) : Option (Int32 × mm) :=
  if a1 < (0 : Int32) then
    some ((-1 : Int32), M)
  else if a1 < ((1 : Int32) <<< ((M.1 1 (M.2.2 12 0 6) 5) &&& 31)) then
    cv (m_X10_look F (M.2.2 12 0 6) 7 M) fun M1 =>
    cl (m_X10_upIf F a1 M1) fun x3 M2 =>
    some (x3, M2)
  else
    some ((-1 : Int32), M)
def m_X11_isUp (F : Nat) (a1 : Int32) (M : mm) : Option (Bool × mm) :=
  cb (m_X0_hasStone F (M.2.2 12 0 6) a1 M) fun b2 M1 =>
  if b2 = true then
    if (((M1.1 5 7 3) >>> (a1 &&& 31)) &&& (1 : Int32)) = (0 : Int32) then
      some (false, M1)
    else
      some (true, M1)
  else
    some (false, M1)
def m_X10_canBreak (F : Nat) (a1 : Int32) (M : mm) : Option (Bool × mm) :=
  if (a1 &&& ((M.1 11 0 8) ^^^ (-1 : Int32))) = (0 : Int32) then
    some (true, M)
  else
    some (false, M)
def m_J6_bitCount_0f7a4 (F : Nat) (a1 : Int32) (M : mm) : Option (Int32 × mm) :=
  nm (a1 - ((a1.toUInt32 >>> (Int32.toUInt32 (1 : Int32) &&& Int32.toUInt32 31)).toInt32 &&& (1431655765 : Int32))) fun x1 =>
  nm ((x1 &&& (858993459 : Int32)) + ((x1.toUInt32 >>> (Int32.toUInt32 (2 : Int32) &&& Int32.toUInt32 31)).toInt32 &&& (858993459 : Int32))) fun x2 =>
  nm ((x2 + (x2.toUInt32 >>> (Int32.toUInt32 (4 : Int32) &&& Int32.toUInt32 31)).toInt32) &&& (252645135 : Int32)) fun x3 =>
  nm (x3 + (x3.toUInt32 >>> (Int32.toUInt32 (8 : Int32) &&& Int32.toUInt32 31)).toInt32) fun x4 =>
  nm (x4 + (x4.toUInt32 >>> (Int32.toUInt32 (16 : Int32) &&& Int32.toUInt32 31)).toInt32) fun x5 =>
  some ((x5 &&& (63 : Int32)), M)
def b_X10_fewestAgainst_2c (F : Nat) (a1 : Int32) (x1 : Int32) (x3 : Int32) (M4 : mm) : Option ((Int32 × mm) ⊕ ((Int32 × mm) ⊕ (mm))) :=
  if ((1 : Int32) <<< ((M4.1 1 (M4.2.2 11 0 1) 5) &&& 31)) ≤ x3 then
    some (.inr (.inr M4))
  else
    cb (m_X10_canBreak F x3 M4) fun b6 M5 =>
    nm (fun (M11 : mm) =>
      some (.inl ((x3 + (1 : Int32)), M11))) fun j58 =>
    if b6 = true then
      cl (m_J6_bitCount_0f7a4 F x3 M5) fun x8 M7 =>
      if x8 = x1 then
        cl (m_X10_upIf F x3 M7) fun x10 M9 =>
        if ((x10 >>> (a1 &&& 31)) &&& (1 : Int32)) = (0 : Int32) then
          some (.inr (.inl (x3, M9)))
        else
          j58 M9
      else
        j58 M7
    else
      j58 M5
def b_X10_fewestAgainst_2 (F : Nat) (a1 : Int32) (x1 : Int32) : (Int32 × mm) → Option ((Int32 × mm) ⊕ ((Int32 × mm) ⊕ (mm))) := fun z => b_X10_fewestAgainst_2c F a1 x1 z.1 z.2
def b_X10_fewestAgainst_1c (F : Nat) (a1 : Int32) (x1 : Int32) (M2 : mm) : Option ((Int32 × mm) ⊕ ((Int32 × mm) ⊕ (mm))) :=
  if (M2.1 1 (M2.2.2 11 0 1) 5) < x1 then
    some (.inr (.inr M2))
  else
    bd (lp (b_X10_fewestAgainst_2 F a1 x1) F ((1 : Int32), M2))
      (Sum.elim
        (fun z => match z with
          | (x12, M13) =>
            some (.inr (.inl (x12, M13))))
        (fun M14 =>
          some (.inl ((x1 + (1 : Int32)), M14))))
def b_X10_fewestAgainst_1 (F : Nat) (a1 : Int32) : (Int32 × mm) → Option ((Int32 × mm) ⊕ ((Int32 × mm) ⊕ (mm))) := fun z => b_X10_fewestAgainst_1c F a1 z.1 z.2
def m_X10_fewestAgainst (F : Nat) (a1 : Int32) (M : mm) : Option (Int32 × mm) :=
  bd (lp (b_X10_fewestAgainst_1 F a1) F ((1 : Int32), M))
    (Sum.elim
      (fun z => match z with
        | (x15, M16) =>
          some (x15, M16))
      (fun M17 =>
        some ((-1 : Int32), M17)))
def m_X11_weakest (F : Nat) (a1 : Int32) (M : mm) : Option (Int32 × mm) :=
  cb (m_X11_isUp F a1 M) fun b2 M1 =>
  if b2 = true then
    cv (m_X10_look F (M1.2.2 12 0 6) 7 M1) fun M3 =>
    cl (m_X10_fewestAgainst F a1 M3) fun x5 M4 =>
    some (x5, M4)
  else
    some ((-1 : Int32), M1)
def b_X10_brokenBy_1c (F : Nat) (a1 : Int32) (M : mm) (x1 : Int32) (x2 : Int32) : Option ((Int32 × Int32) ⊕ (Int32)) :=
  if (M.1 1 (M.2.2 11 0 1) 0) ≤ x2 then
    some (.inr x1)
  else
    bd (
      if ((a1 >>> (x2 &&& 31)) &&& (1 : Int32)) = (0 : Int32) then
        some (0 : Int32)
      else
        gi x2 6 <|
        some (M.1 23 (M.2.2 11 0 1) (Int32.toNatClampNeg x2))
    ) (fun x3 =>
        nm (x1 ||| x3) fun x4 =>
        some (.inl (x4, (x2 + (1 : Int32)))))
def b_X10_brokenBy_1 (F : Nat) (a1 : Int32) (M : mm) : (Int32 × Int32) → Option ((Int32 × Int32) ⊕ (Int32)) := fun z => b_X10_brokenBy_1c F a1 M z.1 z.2
def m_X10_brokenBy (F : Nat) (a1 : Int32) (M : mm) : Option (Int32 × mm) :=
  bd (lp (b_X10_brokenBy_1 F a1 M) F ((0 : Int32), (0 : Int32)))
    (fun x5 =>
      some ((x5 &&& (M.1 11 0 8)), M))
def b_X10_chanceOfChoices_1c (F : Nat) (a1 : Int32) (M : mm) (x1 : Int32) (x2 : Int32) : Option ((Int32 × Int32) ⊕ (Int32)) :=
  if (6 : Int32) ≤ x2 then
    some (.inr x1)
  else
    bd (
      if x2 < (M.1 1 (M.2.2 11 0 1) 0) then
        bd (
          if ((a1 >>> (x2 &&& 31)) &&& (1 : Int32)) = (0 : Int32) then
            gi x2 6 <|
            some (M.1 21 (M.2.2 11 0 1) (Int32.toNatClampNeg x2))
          else
            gi x2 6 <|
            some ((10 : Int32) - (M.1 21 (M.2.2 11 0 1) (Int32.toNatClampNeg x2)))
        ) (fun x3 =>
            nm (x1 * x3) fun x4 =>
            some x4)
      else
        nm (x1 * (10 : Int32)) fun x5 =>
        some x5
    ) (fun x6 =>
        some (.inl (x6, (x2 + (1 : Int32)))))
def b_X10_chanceOfChoices_1 (F : Nat) (a1 : Int32) (M : mm) : (Int32 × Int32) → Option ((Int32 × Int32) ⊕ (Int32)) := fun z => b_X10_chanceOfChoices_1c F a1 M z.1 z.2
def m_X10_chanceOfChoices (F : Nat) (a1 : Int32) (M : mm) : Option (Int32 × mm) :=
  bd (lp (b_X10_chanceOfChoices_1 F a1 M) F ((1 : Int32), (0 : Int32)))
    (fun x7 =>
      some (x7, M))
def b_X10_chanceOf_1c (F : Nat) (a1 : Int32) (x1 : Int32) (x2 : Int32) (M3 : mm) : Option ((Int32 × Int32 × mm) ⊕ (Int32 × mm)) :=
  if ((1 : Int32) <<< ((M3.1 1 (M3.2.2 11 0 1) 0) &&& 31)) ≤ x2 then
    some (.inr (x1, M3))
  else
    cl (m_X10_brokenBy F x2 M3) fun x5 M4 =>
    cl (m_X10_upIf F x5 M4) fun x7 M6 =>
    bd (
      if ((x7 >>> (a1 &&& 31)) &&& (1 : Int32)) = (0 : Int32) then
        some (x1, M6)
      else
        cl (m_X10_chanceOfChoices F x2 M6) fun x9 M8 =>
        nm (x1 + x9) fun x10 =>
        some (x10, M8)
    ) (fun z => match z with
        | (x11, M12) =>
          some (.inl (x11, (x2 + (1 : Int32)), M12)))
def b_X10_chanceOf_1 (F : Nat) (a1 : Int32) : (Int32 × Int32 × mm) → Option ((Int32 × Int32 × mm) ⊕ (Int32 × mm)) := fun z => b_X10_chanceOf_1c F a1 z.1 z.2.1 z.2.2
def m_X10_chanceOf (F : Nat) (a1 : Int32) (M : mm) : Option (Int32 × mm) :=
  bd (lp (b_X10_chanceOf_1 F a1) F ((0 : Int32), (0 : Int32), M))
    (fun z => match z with
      | (x13, M14) =>
        some (x13, M14))
def m_X11_sure (F : Nat) (a1 : Int32) (M : mm) : Option (Int32 × mm) :=
  cb (m_X11_isUp F a1 M) fun b2 M1 =>
  if b2 = true then
    cv (m_X10_look F (M1.2.2 12 0 6) 7 M1) fun M3 =>
    cl (m_X10_chanceOf F a1 M3) fun x5 M4 =>
    some (x5, M4)
  else
    some ((-1 : Int32), M1)
def m_X9_save (F : Nat) (M : mm) : Option (mm) :=
  nm (sI M 10 0 6 (M.1 10 0 5)) fun M1 =>
  nm (cpA M1 48 0 50 0 10) fun M2 =>
  nm (cpA M2 49 0 51 0 110) fun M3 =>
  some M3
def m_X10_layBase (F : Nat) (a1 : Int32) (M : mm) : Option (mm) :=
  cv (m_X4_copy F 1 0 M) fun M1 =>
  nm (sI M1 5 1 1 ((M1.1 5 1 1) ||| a1)) fun M2 =>
  cl (m_X9_standing F (M2.2.2 11 0 1) 1 (M2.1 5 0 3) M2) fun x4 M3 =>
  cv (m_X9_save F M3) fun M5 =>
  some M5
def m_X9_bearsNew (F : Nat) (a1 : Int32) (a2 : Int32) (M : mm) : Option (Bool × mm) :=
  nm (sI M 10 0 5 (M.1 10 0 6)) fun M1 =>
  nm (cpA M1 50 0 48 0 10) fun M2 =>
  nm (cpA M2 51 0 49 0 110) fun M3 =>
  gi (10 : Int32) 11 <|
  nm (sI M3 47 0 (Int32.toNatClampNeg (10 : Int32)) a1) fun M4 =>
  cl (m_X9_lay F (10 : Int32) a2 M4) fun x6 M5 =>
  if x6 = (0 : Int32) then
    some (true, M5)
  else
    some (false, M5)
