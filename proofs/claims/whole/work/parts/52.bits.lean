/-! bits, counted once and for all -/
def bcI (x : Int32) : Int32 :=
  let x1 := x - ((x.toUInt32 >>> (Int32.toUInt32 (1 : Int32) &&& Int32.toUInt32 31)).toInt32 &&& (1431655765 : Int32))
  let x2 := (x1 &&& (858993459 : Int32)) + ((x1.toUInt32 >>> (Int32.toUInt32 (2 : Int32) &&& Int32.toUInt32 31)).toInt32 &&& (858993459 : Int32))
  let x3 := (x2 + (x2.toUInt32 >>> (Int32.toUInt32 (4 : Int32) &&& Int32.toUInt32 31)).toInt32) &&& (252645135 : Int32)
  let x4 := x3 + (x3.toUInt32 >>> (Int32.toUInt32 (8 : Int32) &&& Int32.toUInt32 31)).toInt32
  let x5 := x4 + (x4.toUInt32 >>> (Int32.toUInt32 (16 : Int32) &&& Int32.toUInt32 31)).toInt32
  x5 &&& (63 : Int32)
theorem bc_all : (List.range 2048).all (fun j => decide (bcI (nI j) = nI ((List.range 11).countP (fun i => j.testBit i)))) = true := by decide +kernel
theorem sh_all : (List.range 1024).all (fun j => (List.range 10).all (fun o => (List.range 11).countP (fun i => (j / 2 ^ o).testBit i) == (List.range 10).countP (fun y => decide (o ≤ y) && j.testBit y))) = true := by decide +kernel
