section GR
variable {G : mg} {rd : mrd} {R : Room} {Y : mY} {Z : mZ} {top cells slots pc pc' : Nat} {ls : List (Option mv)} {st : List mv} {M : mm}
theorem g_iconst {n : Int} {v : Int32} (hd : iAt Y.2.2.1 pc (.iconst n) 1 pc') (hv : Int32.ofInt n = v) (k : LW G rd R Y Z top cells slots pc' ls (vI v :: st) M) : LW G rd R Y Z top cells slots pc ls st M := by
  obtain ⟨hd, rfl⟩ := hd
  intro p e s m args below meth c F H lo la hH hS hL hO
  exact lv_iconst F.1 F.2.1 hd hv (k p e s m args below meth c F H lo la hH hS hL hO.i)
theorem g_bipush {n : Int} {v : Int32} (hd : iAt Y.2.2.1 pc (.bipush n) 2 pc') (hv : (Int8.ofInt n).toInt32 = v) (k : LW G rd R Y Z top cells slots pc' ls (vI v :: st) M) : LW G rd R Y Z top cells slots pc ls st M := by
  obtain ⟨hd, rfl⟩ := hd
  intro p e s m args below meth c F H lo la hH hS hL hO
  exact lv_bipush F.1 F.2.1 hd hv (k p e s m args below meth c F H lo la hH hS hL hO.i)
theorem g_sipush {n : Int} {v : Int32} (hd : iAt Y.2.2.1 pc (.sipush n) 3 pc') (hv : (Int16.ofInt n).toInt32 = v) (k : LW G rd R Y Z top cells slots pc' ls (vI v :: st) M) : LW G rd R Y Z top cells slots pc ls st M := by
  obtain ⟨hd, rfl⟩ := hd
  intro p e s m args below meth c F H lo la hH hS hL hO
  exact lv_sipush F.1 F.2.1 hd hv (k p e s m args below meth c F H lo la hH hS hL hO.i)
theorem g_lconst {n : Fin 2} {v : Int64} (hd : iAt Y.2.2.1 pc (.lconst n) 1 pc') (hv : Int64.ofNat (n : Nat) = v) (k : LW G rd R Y Z top cells slots pc' ls (vL v :: st) M) : LW G rd R Y Z top cells slots pc ls st M := by
  obtain ⟨hd, rfl⟩ := hd
  intro p e s m args below meth c F H lo la hH hS hL hO
  exact lv_lconst F.1 F.2.1 hd hv (k p e s m args below meth c F H lo la hH hS hL hO.l)
theorem g_ldc {v : Int32} {index : Nat} (hd : iAt Y.2.2.1 pc (.ldc index) 2 pc') (hv : Cond.constant Y.1 index v ∈ mGood) (k : LW G rd R Y Z top cells slots pc' ls (vI v :: st) M) : LW G rd R Y Z top cells slots pc ls st M := by
  obtain ⟨hd, rfl⟩ := hd
  intro p e s m args below meth c F H lo la hH hS hL hO
  exact W.ldc F.1 F.2.1 F.2.2.2.2.1 (F.2.2.2.2.2.1 _ hv) rfl hd (k p e s m args below meth c F H lo la hH hS hL hO.i)
theorem g_ldc2 {v : Int64} {index : Nat} (hd : iAt Y.2.2.1 pc (.ldc2_w index) 3 pc') (hv : Cond.constantLong Y.1 index v ∈ mGood) (k : LW G rd R Y Z top cells slots pc' ls (vL v :: st) M) : LW G rd R Y Z top cells slots pc ls st M := by
  obtain ⟨hd, rfl⟩ := hd
  intro p e s m args below meth c F H lo la hH hS hL hO
  exact W.ldc2 F.1 F.2.1 F.2.2.2.2.1 (F.2.2.2.2.2.1 _ hv) rfl hd (k p e s m args below meth c F H lo la hH hS hL hO.l)
theorem g_iload_n {q : Fin 4} {i : Nat} {x : Int32} (hd : iAt Y.2.2.1 pc (.iload_n q) 1 pc') (hi : (q : Nat) = i) (hx : ls[i]? = some (some (vI x))) (k : LW G rd R Y Z top cells slots pc' ls (vI x :: st) M) : LW G rd R Y Z top cells slots pc ls st M := by
  obtain ⟨hd, rfl⟩ := hd
  intro p e s m args below meth c F H lo la hH hS hL hO
  exact lv_iload_n F.1 F.2.1 hd hi (hL.2.2 i _ hx) (k p e s m args below meth c F H lo la hH hS hL hO.i)
theorem g_iload {i : Nat} {x : Int32} (hd : iAt Y.2.2.1 pc (.iload i) 2 pc') (hx : ls[i]? = some (some (vI x))) (k : LW G rd R Y Z top cells slots pc' ls (vI x :: st) M) : LW G rd R Y Z top cells slots pc ls st M := by
  obtain ⟨hd, rfl⟩ := hd
  intro p e s m args below meth c F H lo la hH hS hL hO
  exact lv_iload F.1 F.2.1 hd (hL.2.2 i _ hx) (k p e s m args below meth c F H lo la hH hS hL hO.i)
theorem g_lload_n {q : Fin 4} {i : Nat} {x : Int64} (hd : iAt Y.2.2.1 pc (.lload_n q) 1 pc') (hi : (q : Nat) = i) (hx : ls[i]? = some (some (vL x))) (k : LW G rd R Y Z top cells slots pc' ls (vL x :: st) M) : LW G rd R Y Z top cells slots pc ls st M := by
  obtain ⟨hd, rfl⟩ := hd
  intro p e s m args below meth c F H lo la hH hS hL hO
  exact lv_lload_n F.1 F.2.1 hd hi (hL.2.2 i _ hx) (k p e s m args below meth c F H lo la hH hS hL hO.l)
theorem g_lload {i : Nat} {x : Int64} (hd : iAt Y.2.2.1 pc (.lload i) 2 pc') (hx : ls[i]? = some (some (vL x))) (k : LW G rd R Y Z top cells slots pc' ls (vL x :: st) M) : LW G rd R Y Z top cells slots pc ls st M := by
  obtain ⟨hd, rfl⟩ := hd
  intro p e s m args below meth c F H lo la hH hS hL hO
  exact lv_lload F.1 F.2.1 hd (hL.2.2 i _ hx) (k p e s m args below meth c F H lo la hH hS hL hO.l)
theorem g_aload_n {q : Fin 4} {i k0 n0 : Nat} (hd : iAt Y.2.2.1 pc (.aload_n q) 1 pc') (hi : (q : Nat) = i) (hx : ls[i]? = some (some (vR k0 n0))) (k : LW G rd R Y Z top cells slots pc' ls (vR k0 n0 :: st) M) : LW G rd R Y Z top cells slots pc ls st M := by
  obtain ⟨hd, rfl⟩ := hd
  intro p e s m args below meth c F H lo la hH hS hL hO
  exact lv_aload_n F.1 F.2.1 hd hi (hL.2.2 i _ hx) (k p e s m args below meth c F H lo la hH hS hL (hO.cons (hO.loc hx)))
theorem g_aload {i k0 n0 : Nat} (hd : iAt Y.2.2.1 pc (.aload i) 2 pc') (hx : ls[i]? = some (some (vR k0 n0))) (k : LW G rd R Y Z top cells slots pc' ls (vR k0 n0 :: st) M) : LW G rd R Y Z top cells slots pc ls st M := by
  obtain ⟨hd, rfl⟩ := hd
  intro p e s m args below meth c F H lo la hH hS hL hO
  exact lv_aload F.1 F.2.1 hd (hL.2.2 i _ hx) (k p e s m args below meth c F H lo la hH hS hL (hO.cons (hO.loc hx)))
theorem g_iadd {x y : Int32} (hd : iAt Y.2.2.1 pc .iadd 1 pc')  (k : LW G rd R Y Z top cells slots pc' ls (vI (x + y) :: st) M) : LW G rd R Y Z top cells slots pc ls (vI y :: vI x :: st) M := by
  obtain ⟨hd, rfl⟩ := hd
  intro p e s m args below meth c F H lo la hH hS hL hO
  exact lv_iadd F.1 F.2.1 hd (k p e s m args below meth c F H lo la hH hS hL hO.tl.tl.i)
theorem g_isub {x y : Int32} (hd : iAt Y.2.2.1 pc .isub 1 pc')  (k : LW G rd R Y Z top cells slots pc' ls (vI (x - y) :: st) M) : LW G rd R Y Z top cells slots pc ls (vI y :: vI x :: st) M := by
  obtain ⟨hd, rfl⟩ := hd
  intro p e s m args below meth c F H lo la hH hS hL hO
  exact lv_isub F.1 F.2.1 hd (k p e s m args below meth c F H lo la hH hS hL hO.tl.tl.i)
theorem g_imul {x y : Int32} (hd : iAt Y.2.2.1 pc .imul 1 pc')  (k : LW G rd R Y Z top cells slots pc' ls (vI (x * y) :: st) M) : LW G rd R Y Z top cells slots pc ls (vI y :: vI x :: st) M := by
  obtain ⟨hd, rfl⟩ := hd
  intro p e s m args below meth c F H lo la hH hS hL hO
  exact lv_imul F.1 F.2.1 hd (k p e s m args below meth c F H lo la hH hS hL hO.tl.tl.i)
theorem g_iand {x y : Int32} (hd : iAt Y.2.2.1 pc .iand 1 pc')  (k : LW G rd R Y Z top cells slots pc' ls (vI (x &&& y) :: st) M) : LW G rd R Y Z top cells slots pc ls (vI y :: vI x :: st) M := by
  obtain ⟨hd, rfl⟩ := hd
  intro p e s m args below meth c F H lo la hH hS hL hO
  exact lv_iand F.1 F.2.1 hd (k p e s m args below meth c F H lo la hH hS hL hO.tl.tl.i)
theorem g_ior {x y : Int32} (hd : iAt Y.2.2.1 pc .ior 1 pc')  (k : LW G rd R Y Z top cells slots pc' ls (vI (x ||| y) :: st) M) : LW G rd R Y Z top cells slots pc ls (vI y :: vI x :: st) M := by
  obtain ⟨hd, rfl⟩ := hd
  intro p e s m args below meth c F H lo la hH hS hL hO
  exact lv_ior F.1 F.2.1 hd (k p e s m args below meth c F H lo la hH hS hL hO.tl.tl.i)
theorem g_ixor {x y : Int32} (hd : iAt Y.2.2.1 pc .ixor 1 pc')  (k : LW G rd R Y Z top cells slots pc' ls (vI (x ^^^ y) :: st) M) : LW G rd R Y Z top cells slots pc ls (vI y :: vI x :: st) M := by
  obtain ⟨hd, rfl⟩ := hd
  intro p e s m args below meth c F H lo la hH hS hL hO
  exact lv_ixor F.1 F.2.1 hd (k p e s m args below meth c F H lo la hH hS hL hO.tl.tl.i)
theorem g_ishl {x y : Int32} (hd : iAt Y.2.2.1 pc .ishl 1 pc')  (k : LW G rd R Y Z top cells slots pc' ls (vI (x <<< (y &&& 31)) :: st) M) : LW G rd R Y Z top cells slots pc ls (vI y :: vI x :: st) M := by
  obtain ⟨hd, rfl⟩ := hd
  intro p e s m args below meth c F H lo la hH hS hL hO
  exact lv_ishl F.1 F.2.1 hd (k p e s m args below meth c F H lo la hH hS hL hO.tl.tl.i)
theorem g_ishr {x y : Int32} (hd : iAt Y.2.2.1 pc .ishr 1 pc')  (k : LW G rd R Y Z top cells slots pc' ls (vI (x >>> (y &&& 31)) :: st) M) : LW G rd R Y Z top cells slots pc ls (vI y :: vI x :: st) M := by
  obtain ⟨hd, rfl⟩ := hd
  intro p e s m args below meth c F H lo la hH hS hL hO
  exact lv_ishr F.1 F.2.1 hd (k p e s m args below meth c F H lo la hH hS hL hO.tl.tl.i)
theorem g_idiv {x y : Int32} (hd : iAt Y.2.2.1 pc .idiv 1 pc') (hne : ¬ y = 0) (k : LW G rd R Y Z top cells slots pc' ls (vI (x / y) :: st) M) : LW G rd R Y Z top cells slots pc ls (vI y :: vI x :: st) M := by
  obtain ⟨hd, rfl⟩ := hd
  intro p e s m args below meth c F H lo la hH hS hL hO
  exact lv_idiv F.1 F.2.1 hd hne (k p e s m args below meth c F H lo la hH hS hL hO.tl.tl.i)
theorem g_irem {x y : Int32} (hd : iAt Y.2.2.1 pc .irem 1 pc') (hne : ¬ y = 0) (k : LW G rd R Y Z top cells slots pc' ls (vI (x - x / y * y) :: st) M) : LW G rd R Y Z top cells slots pc ls (vI y :: vI x :: st) M := by
  obtain ⟨hd, rfl⟩ := hd
  intro p e s m args below meth c F H lo la hH hS hL hO
  exact lv_irem F.1 F.2.1 hd hne (k p e s m args below meth c F H lo la hH hS hL hO.tl.tl.i)
theorem g_iushr {x y v : Int32} (hd : iAt Y.2.2.1 pc .iushr 1 pc') (hv : (x.toUInt32 >>> (y.toUInt32 &&& Int32.toUInt32 31)).toInt32 = v) (k : LW G rd R Y Z top cells slots pc' ls (vI v :: st) M) : LW G rd R Y Z top cells slots pc ls (vI y :: vI x :: st) M := by
  obtain ⟨hd, rfl⟩ := hd
  intro p e s m args below meth c F H lo la hH hS hL hO
  exact lv_iushr F.1 F.2.1 hd hv (k p e s m args below meth c F H lo la hH hS hL hO.tl.tl.i)
theorem g_ladd {x y : Int64} (hd : iAt Y.2.2.1 pc .ladd 1 pc')  (k : LW G rd R Y Z top cells slots pc' ls (vL (x + y) :: st) M) : LW G rd R Y Z top cells slots pc ls (vL y :: vL x :: st) M := by
  obtain ⟨hd, rfl⟩ := hd
  intro p e s m args below meth c F H lo la hH hS hL hO
  exact lv_ladd F.1 F.2.1 hd (k p e s m args below meth c F H lo la hH hS hL hO.tl.tl.l)
theorem g_lsub {x y : Int64} (hd : iAt Y.2.2.1 pc .lsub 1 pc')  (k : LW G rd R Y Z top cells slots pc' ls (vL (x - y) :: st) M) : LW G rd R Y Z top cells slots pc ls (vL y :: vL x :: st) M := by
  obtain ⟨hd, rfl⟩ := hd
  intro p e s m args below meth c F H lo la hH hS hL hO
  exact lv_lsub F.1 F.2.1 hd (k p e s m args below meth c F H lo la hH hS hL hO.tl.tl.l)
theorem g_lmul {x y : Int64} (hd : iAt Y.2.2.1 pc .lmul 1 pc')  (k : LW G rd R Y Z top cells slots pc' ls (vL (x * y) :: st) M) : LW G rd R Y Z top cells slots pc ls (vL y :: vL x :: st) M := by
  obtain ⟨hd, rfl⟩ := hd
  intro p e s m args below meth c F H lo la hH hS hL hO
  exact lv_lmul F.1 F.2.1 hd (k p e s m args below meth c F H lo la hH hS hL hO.tl.tl.l)
theorem g_land {x y : Int64} (hd : iAt Y.2.2.1 pc .land 1 pc')  (k : LW G rd R Y Z top cells slots pc' ls (vL (x &&& y) :: st) M) : LW G rd R Y Z top cells slots pc ls (vL y :: vL x :: st) M := by
  obtain ⟨hd, rfl⟩ := hd
  intro p e s m args below meth c F H lo la hH hS hL hO
  exact lv_land F.1 F.2.1 hd (k p e s m args below meth c F H lo la hH hS hL hO.tl.tl.l)
theorem g_lor {x y : Int64} (hd : iAt Y.2.2.1 pc .lor 1 pc')  (k : LW G rd R Y Z top cells slots pc' ls (vL (x ||| y) :: st) M) : LW G rd R Y Z top cells slots pc ls (vL y :: vL x :: st) M := by
  obtain ⟨hd, rfl⟩ := hd
  intro p e s m args below meth c F H lo la hH hS hL hO
  exact lv_lor F.1 F.2.1 hd (k p e s m args below meth c F H lo la hH hS hL hO.tl.tl.l)
theorem g_ldiv {x y : Int64} (hd : iAt Y.2.2.1 pc .ldiv 1 pc') (hne : ¬ y = 0) (k : LW G rd R Y Z top cells slots pc' ls (vL (x / y) :: st) M) : LW G rd R Y Z top cells slots pc ls (vL y :: vL x :: st) M := by
  obtain ⟨hd, rfl⟩ := hd
  intro p e s m args below meth c F H lo la hH hS hL hO
  exact lv_ldiv F.1 F.2.1 hd hne (k p e s m args below meth c F H lo la hH hS hL hO.tl.tl.l)
theorem g_lrem {x y : Int64} (hd : iAt Y.2.2.1 pc .lrem 1 pc') (hne : ¬ y = 0) (k : LW G rd R Y Z top cells slots pc' ls (vL (x - x / y * y) :: st) M) : LW G rd R Y Z top cells slots pc ls (vL y :: vL x :: st) M := by
  obtain ⟨hd, rfl⟩ := hd
  intro p e s m args below meth c F H lo la hH hS hL hO
  exact lv_lrem F.1 F.2.1 hd hne (k p e s m args below meth c F H lo la hH hS hL hO.tl.tl.l)
theorem g_lshl {x v : Int64} {y : Int32} (hd : iAt Y.2.2.1 pc .lshl 1 pc') (hv : x <<< (y.toInt64 &&& 63) = v) (k : LW G rd R Y Z top cells slots pc' ls (vL v :: st) M) : LW G rd R Y Z top cells slots pc ls (vI y :: vL x :: st) M := by
  obtain ⟨hd, rfl⟩ := hd
  intro p e s m args below meth c F H lo la hH hS hL hO
  exact lv_lshl F.1 F.2.1 hd hv (k p e s m args below meth c F H lo la hH hS hL hO.tl.tl.l)
theorem g_lshr {x v : Int64} {y : Int32} (hd : iAt Y.2.2.1 pc .lshr 1 pc') (hv : x >>> (y.toInt64 &&& 63) = v) (k : LW G rd R Y Z top cells slots pc' ls (vL v :: st) M) : LW G rd R Y Z top cells slots pc ls (vI y :: vL x :: st) M := by
  obtain ⟨hd, rfl⟩ := hd
  intro p e s m args below meth c F H lo la hH hS hL hO
  exact lv_lshr F.1 F.2.1 hd hv (k p e s m args below meth c F H lo la hH hS hL hO.tl.tl.l)
theorem g_lushr {x v : Int64} {y : Int32} (hd : iAt Y.2.2.1 pc .lushr 1 pc') (hv : (x.toUInt64 >>> (y.toInt64.toUInt64 &&& Int64.toUInt64 63)).toInt64 = v) (k : LW G rd R Y Z top cells slots pc' ls (vL v :: st) M) : LW G rd R Y Z top cells slots pc ls (vI y :: vL x :: st) M := by
  obtain ⟨hd, rfl⟩ := hd
  intro p e s m args below meth c F H lo la hH hS hL hO
  exact lv_lushr F.1 F.2.1 hd hv (k p e s m args below meth c F H lo la hH hS hL hO.tl.tl.l)
theorem g_lcmp {x y : Int64} (hd : iAt Y.2.2.1 pc .lcmp 1 pc')  (k : LW G rd R Y Z top cells slots pc' ls (vI (lg_cmp x y) :: st) M) : LW G rd R Y Z top cells slots pc ls (vL y :: vL x :: st) M := by
  obtain ⟨hd, rfl⟩ := hd
  intro p e s m args below meth c F H lo la hH hS hL hO
  exact W.lcmp F.1 F.2.1 hd (k p e s m args below meth c F H lo la hH hS hL hO.tl.tl.i)
theorem g_i2l {x : Int32} (hd : iAt Y.2.2.1 pc .i2l 1 pc')  (k : LW G rd R Y Z top cells slots pc' ls (vL x.toInt64 :: st) M) : LW G rd R Y Z top cells slots pc ls (vI x :: st) M := by
  obtain ⟨hd, rfl⟩ := hd
  intro p e s m args below meth c F H lo la hH hS hL hO
  exact lv_i2l F.1 F.2.1 hd rfl (k p e s m args below meth c F H lo la hH hS hL hO.tl.l)
theorem g_l2i {x : Int64} (hd : iAt Y.2.2.1 pc .l2i 1 pc')  (k : LW G rd R Y Z top cells slots pc' ls (vI x.toInt32 :: st) M) : LW G rd R Y Z top cells slots pc ls (vL x :: st) M := by
  obtain ⟨hd, rfl⟩ := hd
  intro p e s m args below meth c F H lo la hH hS hL hO
  exact lv_l2i F.1 F.2.1 hd rfl (k p e s m args below meth c F H lo la hH hS hL hO.tl.i)
theorem g_i2b {x : Int32} (hd : iAt Y.2.2.1 pc .i2b 1 pc')  (k : LW G rd R Y Z top cells slots pc' ls (vI x.toInt8.toInt32 :: st) M) : LW G rd R Y Z top cells slots pc ls (vI x :: st) M := by
  obtain ⟨hd, rfl⟩ := hd
  intro p e s m args below meth c F H lo la hH hS hL hO
  exact lv_i2b F.1 F.2.1 hd rfl (k p e s m args below meth c F H lo la hH hS hL hO.tl.i)
def m1 : mv → Bool := fun v => match v with | .inr (.inl _) => false | _ => true
theorem m1_cat {G : mg} {v : mv} (h : m1 v = true) : (rv G v).category = 1 := by
  rcases v with x | x | (_ | q) <;> first | rfl | simp [m1] at h
theorem g_dup {v : mv} (hd : iAt Y.2.2.1 pc .dup 1 pc') (hv : m1 v = true) (k : LW G rd R Y Z top cells slots pc' ls (v :: v :: st) M) : LW G rd R Y Z top cells slots pc ls (v :: st) M := by
  obtain ⟨hd, rfl⟩ := hd
  intro p e s m args below meth c F H lo la hH hS hL hO
  exact lv_dup F.1 F.2.1 hd (m1_cat hv) (k p e s m args below meth c F H lo la hH hS hL (hO.cons hO.hd))
theorem g_pop {v : mv} (hd : iAt Y.2.2.1 pc .pop 1 pc') (hv : m1 v = true) (k : LW G rd R Y Z top cells slots pc' ls st M) : LW G rd R Y Z top cells slots pc ls (v :: st) M := by
  obtain ⟨hd, rfl⟩ := hd
  intro p e s m args below meth c F H lo la hH hS hL hO
  exact lv_pop F.1 F.2.1 hd (m1_cat hv) (k p e s m args below meth c F H lo la hH hS hL hO.tl)
theorem g_dup2 {v w : mv} (hd : iAt Y.2.2.1 pc .dup2 1 pc') (hv : m1 v = true) (hw : m1 w = true) (k : LW G rd R Y Z top cells slots pc' ls (v :: w :: v :: w :: st) M) : LW G rd R Y Z top cells slots pc ls (v :: w :: st) M := by
  obtain ⟨hd, rfl⟩ := hd
  intro p e s m args below meth c F H lo la hH hS hL hO
  exact lv_dup2_11 F.1 F.2.1 hd (m1_cat hv) (m1_cat hw) (k p e s m args below meth c F H lo la hH hS hL ((hO.cons hO.tl.hd).cons hO.hd))
theorem g_icmp_eq {x y : Int32} {off : Int} {tgt : Nat} (hd : iAt Y.2.2.1 pc (.if_icmp .eq off) 3 pc') (ht : (pc : Int) + off = (tgt : Int)) (kt : x = y → LW G rd R Y Z top cells slots tgt ls st M) (kf : ¬ (x = y) → LW G rd R Y Z top cells slots pc' ls st M) : LW G rd R Y Z top cells slots pc ls (vI y :: vI x :: st) M := by
  obtain ⟨hd, rfl⟩ := hd
  intro p e s m args below meth c F H lo la hH hS hL hO
  exact lv_icmp_eq F.1 F.2.1 hd ht (fun h => kt h p e s m args below meth c F H lo la hH hS hL hO.tl.tl) (fun h => kf h p e s m args below meth c F H lo la hH hS hL hO.tl.tl)
theorem g_if_eq {x : Int32} {off : Int} {tgt : Nat} (hd : iAt Y.2.2.1 pc (.ifCond .eq off) 3 pc') (ht : (pc : Int) + off = (tgt : Int)) (kt : x = 0 → LW G rd R Y Z top cells slots tgt ls st M) (kf : ¬ (x = 0) → LW G rd R Y Z top cells slots pc' ls st M) : LW G rd R Y Z top cells slots pc ls (vI x :: st) M := by
  obtain ⟨hd, rfl⟩ := hd
  intro p e s m args below meth c F H lo la hH hS hL hO
  exact lv_if_eq F.1 F.2.1 hd ht (fun h => kt h p e s m args below meth c F H lo la hH hS hL hO.tl) (fun h => kf h p e s m args below meth c F H lo la hH hS hL hO.tl)
theorem g_icmp_ne {x y : Int32} {off : Int} {tgt : Nat} (hd : iAt Y.2.2.1 pc (.if_icmp .ne off) 3 pc') (ht : (pc : Int) + off = (tgt : Int)) (kt : ¬ x = y → LW G rd R Y Z top cells slots tgt ls st M) (kf : x = y → LW G rd R Y Z top cells slots pc' ls st M) : LW G rd R Y Z top cells slots pc ls (vI y :: vI x :: st) M := by
  obtain ⟨hd, rfl⟩ := hd
  intro p e s m args below meth c F H lo la hH hS hL hO
  exact lv_icmp_ne F.1 F.2.1 hd ht (fun h => kt h p e s m args below meth c F H lo la hH hS hL hO.tl.tl) (fun h => kf h p e s m args below meth c F H lo la hH hS hL hO.tl.tl)
theorem g_if_ne {x : Int32} {off : Int} {tgt : Nat} (hd : iAt Y.2.2.1 pc (.ifCond .ne off) 3 pc') (ht : (pc : Int) + off = (tgt : Int)) (kt : ¬ x = 0 → LW G rd R Y Z top cells slots tgt ls st M) (kf : x = 0 → LW G rd R Y Z top cells slots pc' ls st M) : LW G rd R Y Z top cells slots pc ls (vI x :: st) M := by
  obtain ⟨hd, rfl⟩ := hd
  intro p e s m args below meth c F H lo la hH hS hL hO
  exact lv_if_ne F.1 F.2.1 hd ht (fun h => kt h p e s m args below meth c F H lo la hH hS hL hO.tl) (fun h => kf h p e s m args below meth c F H lo la hH hS hL hO.tl)
theorem g_icmp_lt {x y : Int32} {off : Int} {tgt : Nat} (hd : iAt Y.2.2.1 pc (.if_icmp .lt off) 3 pc') (ht : (pc : Int) + off = (tgt : Int)) (kt : x < y → LW G rd R Y Z top cells slots tgt ls st M) (kf : ¬ (x < y) → LW G rd R Y Z top cells slots pc' ls st M) : LW G rd R Y Z top cells slots pc ls (vI y :: vI x :: st) M := by
  obtain ⟨hd, rfl⟩ := hd
  intro p e s m args below meth c F H lo la hH hS hL hO
  exact lv_icmp_lt F.1 F.2.1 hd ht (fun h => kt h p e s m args below meth c F H lo la hH hS hL hO.tl.tl) (fun h => kf h p e s m args below meth c F H lo la hH hS hL hO.tl.tl)
theorem g_if_lt {x : Int32} {off : Int} {tgt : Nat} (hd : iAt Y.2.2.1 pc (.ifCond .lt off) 3 pc') (ht : (pc : Int) + off = (tgt : Int)) (kt : x < 0 → LW G rd R Y Z top cells slots tgt ls st M) (kf : ¬ (x < 0) → LW G rd R Y Z top cells slots pc' ls st M) : LW G rd R Y Z top cells slots pc ls (vI x :: st) M := by
  obtain ⟨hd, rfl⟩ := hd
  intro p e s m args below meth c F H lo la hH hS hL hO
  exact lv_if_lt F.1 F.2.1 hd ht (fun h => kt h p e s m args below meth c F H lo la hH hS hL hO.tl) (fun h => kf h p e s m args below meth c F H lo la hH hS hL hO.tl)
theorem g_icmp_ge {x y : Int32} {off : Int} {tgt : Nat} (hd : iAt Y.2.2.1 pc (.if_icmp .ge off) 3 pc') (ht : (pc : Int) + off = (tgt : Int)) (kt : y ≤ x → LW G rd R Y Z top cells slots tgt ls st M) (kf : ¬ (y ≤ x) → LW G rd R Y Z top cells slots pc' ls st M) : LW G rd R Y Z top cells slots pc ls (vI y :: vI x :: st) M := by
  obtain ⟨hd, rfl⟩ := hd
  intro p e s m args below meth c F H lo la hH hS hL hO
  exact lv_icmp_ge F.1 F.2.1 hd ht (fun h => kt h p e s m args below meth c F H lo la hH hS hL hO.tl.tl) (fun h => kf h p e s m args below meth c F H lo la hH hS hL hO.tl.tl)
theorem g_if_ge {x : Int32} {off : Int} {tgt : Nat} (hd : iAt Y.2.2.1 pc (.ifCond .ge off) 3 pc') (ht : (pc : Int) + off = (tgt : Int)) (kt : 0 ≤ x → LW G rd R Y Z top cells slots tgt ls st M) (kf : ¬ (0 ≤ x) → LW G rd R Y Z top cells slots pc' ls st M) : LW G rd R Y Z top cells slots pc ls (vI x :: st) M := by
  obtain ⟨hd, rfl⟩ := hd
  intro p e s m args below meth c F H lo la hH hS hL hO
  exact lv_if_ge F.1 F.2.1 hd ht (fun h => kt h p e s m args below meth c F H lo la hH hS hL hO.tl) (fun h => kf h p e s m args below meth c F H lo la hH hS hL hO.tl)
theorem g_icmp_gt {x y : Int32} {off : Int} {tgt : Nat} (hd : iAt Y.2.2.1 pc (.if_icmp .gt off) 3 pc') (ht : (pc : Int) + off = (tgt : Int)) (kt : y < x → LW G rd R Y Z top cells slots tgt ls st M) (kf : ¬ (y < x) → LW G rd R Y Z top cells slots pc' ls st M) : LW G rd R Y Z top cells slots pc ls (vI y :: vI x :: st) M := by
  obtain ⟨hd, rfl⟩ := hd
  intro p e s m args below meth c F H lo la hH hS hL hO
  exact lv_icmp_gt F.1 F.2.1 hd ht (fun h => kt h p e s m args below meth c F H lo la hH hS hL hO.tl.tl) (fun h => kf h p e s m args below meth c F H lo la hH hS hL hO.tl.tl)
theorem g_if_gt {x : Int32} {off : Int} {tgt : Nat} (hd : iAt Y.2.2.1 pc (.ifCond .gt off) 3 pc') (ht : (pc : Int) + off = (tgt : Int)) (kt : 0 < x → LW G rd R Y Z top cells slots tgt ls st M) (kf : ¬ (0 < x) → LW G rd R Y Z top cells slots pc' ls st M) : LW G rd R Y Z top cells slots pc ls (vI x :: st) M := by
  obtain ⟨hd, rfl⟩ := hd
  intro p e s m args below meth c F H lo la hH hS hL hO
  exact lv_if_gt F.1 F.2.1 hd ht (fun h => kt h p e s m args below meth c F H lo la hH hS hL hO.tl) (fun h => kf h p e s m args below meth c F H lo la hH hS hL hO.tl)
theorem g_icmp_le {x y : Int32} {off : Int} {tgt : Nat} (hd : iAt Y.2.2.1 pc (.if_icmp .le off) 3 pc') (ht : (pc : Int) + off = (tgt : Int)) (kt : x ≤ y → LW G rd R Y Z top cells slots tgt ls st M) (kf : ¬ (x ≤ y) → LW G rd R Y Z top cells slots pc' ls st M) : LW G rd R Y Z top cells slots pc ls (vI y :: vI x :: st) M := by
  obtain ⟨hd, rfl⟩ := hd
  intro p e s m args below meth c F H lo la hH hS hL hO
  exact lv_icmp_le F.1 F.2.1 hd ht (fun h => kt h p e s m args below meth c F H lo la hH hS hL hO.tl.tl) (fun h => kf h p e s m args below meth c F H lo la hH hS hL hO.tl.tl)
theorem g_if_le {x : Int32} {off : Int} {tgt : Nat} (hd : iAt Y.2.2.1 pc (.ifCond .le off) 3 pc') (ht : (pc : Int) + off = (tgt : Int)) (kt : x ≤ 0 → LW G rd R Y Z top cells slots tgt ls st M) (kf : ¬ (x ≤ 0) → LW G rd R Y Z top cells slots pc' ls st M) : LW G rd R Y Z top cells slots pc ls (vI x :: st) M := by
  obtain ⟨hd, rfl⟩ := hd
  intro p e s m args below meth c F H lo la hH hS hL hO
  exact lv_if_le F.1 F.2.1 hd ht (fun h => kt h p e s m args below meth c F H lo la hH hS hL hO.tl) (fun h => kf h p e s m args below meth c F H lo la hH hS hL hO.tl)
theorem g_goto {off : Int} {tgt : Nat} (hd : iAt Y.2.2.1 pc (.goto off) 3 pc') (ht : (pc : Int) + off = (tgt : Int)) (k : LW G rd R Y Z top cells slots tgt ls st M) : LW G rd R Y Z top cells slots pc ls st M := by
  obtain ⟨hd, rfl⟩ := hd
  intro p e s m args below meth c F H lo la hH hS hL hO
  exact lv_goto F.1 F.2.1 hd ht (k p e s m args below meth c F H lo la hH hS hL hO)
theorem g_tableOut {dflt lo0 hi : Int} {offs : Array Int} {len : Nat} {x : Int32} {tgt : Nat} (hd : iAt Y.2.2.1 pc (.tableswitch dflt lo0 hi offs) len pc') (h : x.toInt < lo0 ∨ hi < x.toInt) (ht : (pc : Int) + dflt = (tgt : Int)) (k : LW G rd R Y Z top cells slots tgt ls st M) : LW G rd R Y Z top cells slots pc ls (vI x :: st) M := by
  obtain ⟨hd, rfl⟩ := hd
  intro p e s m args below meth c F H lo la hH hS hL hO
  exact lv_tableOut F.1 F.2.1 hd h ht (k p e s m args below meth c F H lo la hH hS hL hO.tl)
theorem g_tableIn {dflt lo0 hi : Int} {offs : Array Int} {len : Nat} {x : Int32} {off : Int} {tgt : Nat} (hd : iAt Y.2.2.1 pc (.tableswitch dflt lo0 hi offs) len pc') (h1 : ¬ x.toInt < lo0) (h2 : ¬ hi < x.toInt) (ho : offs[(x.toInt - lo0).toNat]? = some off) (ht : (pc : Int) + off = (tgt : Int)) (k : LW G rd R Y Z top cells slots tgt ls st M) : LW G rd R Y Z top cells slots pc ls (vI x :: st) M := by
  obtain ⟨hd, rfl⟩ := hd
  intro p e s m args below meth c F H lo la hH hS hL hO
  exact lv_tableIn F.1 F.2.1 hd h1 h2 ho ht (k p e s m args below meth c F H lo la hH hS hL hO.tl)
theorem g_lookup {dflt : Int} {ps : Array (Int × Int)} {len : Nat} {x : Int32} {off : Int} {tgt : Nat} (hd : iAt Y.2.2.1 pc (.lookupswitch dflt ps) len pc') (hp : (ps.toList.zip (ps.toList.drop 1)).all (fun (a, next) => a.1 < next.1) = true) (ho : Op.lookupswitch.offset ps.toList dflt x.toInt = off) (ht : (pc : Int) + off = (tgt : Int)) (k : LW G rd R Y Z top cells slots tgt ls st M) : LW G rd R Y Z top cells slots pc ls (vI x :: st) M := by
  obtain ⟨hd, rfl⟩ := hd
  intro p e s m args below meth c F H lo la hH hS hL hO
  exact lv_lookup F.1 F.2.1 hd hp ho ht (k p e s m args below meth c F H lo la hH hS hL hO.tl)
end GR
/-! locals: stores, and forgetting -/
def isL (v : mv) : Bool := match v with | .inr (.inl _) => true | _ => false
def setL : List (Option mv) → Nat → mv → List (Option mv)
  | [], _, _ => []
  | _ :: t, 0, v => some v :: (if isL v = true then (match t with | [] => [] | _ :: t' => none :: t') else t)
  | o :: t, 1, v => (match o with | some w => if isL w = true then none else o | none => none) :: setL t 0 v
  | o :: t, i + 2, v => o :: setL t (i + 1) v
theorem setL_get : ∀ (ls : List (Option mv)) (i : Nat) (v : mv) (j : Nat) (w : mv), (setL ls i v)[j]? = some (some w) → (j = i ∧ w = v) ∨ (j ≠ i ∧ ls[j]? = some (some w) ∧ ¬ (j + 1 = i ∧ isL w = true) ∧ ¬ (isL v = true ∧ j = i + 1)) := by
  intro ls
  induction ls with
  | nil => intro i v j w h; simp [setL] at h
  | cons o t ih =>
    intro i v j w h
    match i, j with
    | 0, 0 => simp [setL] at h; exact Or.inl ⟨rfl, h.symm⟩
    | 0, j + 1 =>
      refine Or.inr ⟨by omega, ?_⟩
      simp only [setL, List.getElem?_cons_succ] at h ⊢
      by_cases hv : isL v = true
      · rw [if_pos hv] at h
        match t, j with
        | [], j => simp at h
        | _ :: t', 0 => simp at h
        | _ :: t', j + 1 => simp only [List.getElem?_cons_succ] at h ⊢; exact ⟨h, by omega, by omega⟩
      · rw [if_neg hv] at h
        exact ⟨h, by omega, fun q => hv q.1⟩
    | 1, 0 =>
      refine Or.inr ⟨by omega, ?_⟩
      simp only [setL, List.getElem?_cons_zero, Option.some.injEq] at h ⊢
      cases o with
      | none => simp at h
      | some u =>
        by_cases hu : isL u = true
        · simp [hu] at h
        · simp [hu] at h; subst h; exact ⟨rfl, fun q => hu q.2, by omega⟩
    | 1, j + 1 =>
      simp only [setL, List.getElem?_cons_succ] at h ⊢
      rcases ih 0 v j w h with ⟨a, b⟩ | ⟨a, b, c, d⟩
      · exact Or.inl ⟨by omega, b⟩
      · exact Or.inr ⟨by omega, b, fun q => c ⟨by omega, q.2⟩, fun q => d ⟨q.1, by omega⟩⟩
    | i + 2, 0 =>
      simp only [setL, List.getElem?_cons_zero] at h ⊢
      exact Or.inr ⟨by omega, h, by omega, by omega⟩
    | i + 2, j + 1 =>
      simp only [setL, List.getElem?_cons_succ] at h ⊢
      rcases ih (i + 1) v j w h with ⟨a, b⟩ | ⟨a, b, c, d⟩
      · exact Or.inl ⟨by omega, b⟩
      · exact Or.inr ⟨by omega, b, fun q => c ⟨by omega, q.2⟩, fun q => d ⟨q.1, by omega⟩⟩
theorem isL_cat {G : mg} {v : mv} : isL v = true ↔ (rv G v).category = 2 := by
  rcases v with x | x | (_ | q) <;> simp [isL, rv, Value.category]
def asc (G : mg) (ls : List (Option mv)) : List (Nat × Value) := (List.range ls.length).filterMap (fun i => match ls[i]? with | some (some v) => some (i, rv G v) | _ => none)
theorem asc_mem {G : mg} {ls : List (Option mv)} {i : Nat} {v : mv} (h : ls[i]? = some (some v)) : (i, rv G v) ∈ asc G ls := by
  refine List.mem_filterMap.mpr ⟨i, List.mem_range.mpr (List.getElem?_eq_some_iff.mp h).1, ?_⟩
  rw [h]
theorem asc_has {G : mg} {la : Array Slot} {nL : Nat} {ls : List (Option mv)} (h : mLR G la nL ls) : lv_has la nL (asc G ls) := by
  refine ⟨h.1, h.2.1, fun q hq => ?_⟩
  obtain ⟨i, -, hi⟩ := List.mem_filterMap.mp hq
  split at hi
  · rename_i v hv
    cases hi
    exact h.2.2 i v hv
  · cases hi
theorem mLR_set1 {G : mg} {la : Array Slot} {nL i : Nat} {ls : List (Option mv)} {v : mv} (hv : isL v = false) (h : lv_has la nL ((i, rv G v) :: (asc G ls).filter (fun q => !(q.1 == i) && !(q.1 + 1 == i && q.2.category == 2)))) : mLR G la nL (setL ls i v) := by
  refine ⟨h.1, h.2.1, fun j w hj => ?_⟩
  rcases setL_get ls i v j w hj with ⟨rfl, rfl⟩ | ⟨a, b, c, d⟩
  · exact h.2.2 (j, rv G w) List.mem_cons_self
  · refine h.2.2 (j, rv G w) (List.mem_cons_of_mem _ (List.mem_filter.mpr ⟨asc_mem b, ?_⟩))
    simp only [Bool.and_eq_true, Bool.not_eq_true', beq_eq_false_iff_ne, Bool.and_eq_false_iff]
    refine ⟨a, ?_⟩
    by_cases e : j + 1 = i
    · exact Or.inr (fun q => c ⟨e, isL_cat.mpr q⟩)
    · exact Or.inl e
theorem mLR_set2 {G : mg} {la : Array Slot} {nL i : Nat} {ls : List (Option mv)} {v : mv} (hv : isL v = true) (h : lv_has la nL ((i, rv G v) :: (asc G ls).filter (fun q => !(q.1 == i) && (!(q.1 == i + 1) && !(q.1 + 1 == i && q.2.category == 2))))) : mLR G la nL (setL ls i v) := by
  refine ⟨h.1, h.2.1, fun j w hj => ?_⟩
  rcases setL_get ls i v j w hj with ⟨rfl, rfl⟩ | ⟨a, b, c, d⟩
  · exact h.2.2 (j, rv G w) List.mem_cons_self
  · refine h.2.2 (j, rv G w) (List.mem_cons_of_mem _ (List.mem_filter.mpr ⟨asc_mem b, ?_⟩))
    simp only [Bool.and_eq_true, Bool.not_eq_true', beq_eq_false_iff_ne, Bool.and_eq_false_iff]
    refine ⟨a, fun q => d ⟨hv, q⟩, ?_⟩
    by_cases e : j + 1 = i
    · exact Or.inr (fun q => c ⟨e, isL_cat.mpr q⟩)
    · exact Or.inl e
theorem mOk_set {top : Nat} {ls : List (Option mv)} {st : List mv} {v : mv} {i : Nat} (h : mOk top ls (v :: st)) : mOk top (setL ls i v) st := by
  refine ⟨h.tl.1, fun w hw => ?_⟩
  obtain ⟨j, hj⟩ := List.getElem?_of_mem hw
  rcases setL_get ls i v j w hj with ⟨_, rfl⟩ | ⟨a, b, c, d⟩
  · exact h.hd
  · exact h.loc b
def keepL : List Bool → List (Option mv) → List (Option mv)
  | [], _ => []
  | _ :: _, [] => []
  | b :: bs, o :: t => (if b = true then o else none) :: keepL bs t
theorem keepL_get : ∀ (bs : List Bool) (ls : List (Option mv)) (j : Nat) (w : mv), (keepL bs ls)[j]? = some (some w) → ls[j]? = some (some w) := by
  intro bs
  induction bs with
  | nil => intro ls j w h; simp [keepL] at h
  | cons b bs ih =>
    intro ls j w h
    match ls, j with
    | [], j => simp [keepL] at h
    | o :: t, 0 =>
      simp only [keepL, List.getElem?_cons_zero, Option.some.injEq] at h ⊢
      by_cases hb : b = true
      · rw [if_pos hb] at h; exact h
      · rw [if_neg hb] at h; cases h
    | o :: t, j + 1 =>
      simp only [keepL, List.getElem?_cons_succ] at h ⊢
      exact ih t j w h
section GS
variable {G : mg} {rd : mrd} {R : Room} {Y : mY} {Z : mZ} {top cells slots pc pc' : Nat} {ls ls' : List (Option mv)} {st : List mv} {M : mm}
theorem g_keep (bs : List Bool) (hs : keepL bs ls = ls') (k : LW G rd R Y Z top cells slots pc ls' st M) : LW G rd R Y Z top cells slots pc ls st M := by
  subst hs
  intro p e s m args below meth c F H lo la hH hS hL hO
  refine k p e s m args below meth c F H lo la hH hS ⟨hL.1, hL.2.1, fun i v h => hL.2.2 i v (keepL_get _ _ _ _ h)⟩ ⟨hO.1, fun v hv => ?_⟩
  obtain ⟨j, hj⟩ := List.getElem?_of_mem hv
  exact hO.loc (keepL_get _ _ _ _ hj)
theorem g_istore_n {q : Fin 4} {i : Nat} {x : Int32} (hd : iAt Y.2.2.1 pc (.istore_n q) 1 pc') (hi : (q : Nat) = i) (hn : i < Y.2.2.2.1) (hs : setL ls i (vI x) = ls') (k : LW G rd R Y Z top cells slots pc' ls' st M) : LW G rd R Y Z top cells slots pc ls (vI x :: st) M := by
  obtain ⟨hd, rfl⟩ := hd; subst hs
  intro p e s m args below meth c F H lo la hH hS hL hO
  exact lv_istore_n F.1 F.2.1 hd hi (asc_has hL) hn rfl (fun la' hl => k p e s m args below meth c F H lo la' hH hS (mLR_set1 rfl hl) (mOk_set hO))
theorem g_istore {i : Nat} {x : Int32} (hd : iAt Y.2.2.1 pc (.istore i) 2 pc') (hn : i < Y.2.2.2.1) (hs : setL ls i (vI x) = ls') (k : LW G rd R Y Z top cells slots pc' ls' st M) : LW G rd R Y Z top cells slots pc ls (vI x :: st) M := by
  obtain ⟨hd, rfl⟩ := hd; subst hs
  intro p e s m args below meth c F H lo la hH hS hL hO
  exact lv_istore F.1 F.2.1 hd (asc_has hL) hn rfl (fun la' hl => k p e s m args below meth c F H lo la' hH hS (mLR_set1 rfl hl) (mOk_set hO))
theorem g_astore_n {q : Fin 4} {i k0 n0 : Nat} (hd : iAt Y.2.2.1 pc (.astore_n q) 1 pc') (hi : (q : Nat) = i) (hn : i < Y.2.2.2.1) (hs : setL ls i (vR k0 n0) = ls') (k : LW G rd R Y Z top cells slots pc' ls' st M) : LW G rd R Y Z top cells slots pc ls (vR k0 n0 :: st) M := by
  obtain ⟨hd, rfl⟩ := hd; subst hs
  intro p e s m args below meth c F H lo la hH hS hL hO
  exact lv_astore_n F.1 F.2.1 hd hi (asc_has hL) hn rfl (fun la' hl => k p e s m args below meth c F H lo la' hH hS (mLR_set1 (v := vR k0 n0) rfl hl) (mOk_set hO))
theorem g_astore {i k0 n0 : Nat} (hd : iAt Y.2.2.1 pc (.astore i) 2 pc') (hn : i < Y.2.2.2.1) (hs : setL ls i (vR k0 n0) = ls') (k : LW G rd R Y Z top cells slots pc' ls' st M) : LW G rd R Y Z top cells slots pc ls (vR k0 n0 :: st) M := by
  obtain ⟨hd, rfl⟩ := hd; subst hs
  intro p e s m args below meth c F H lo la hH hS hL hO
  exact lv_astore F.1 F.2.1 hd (asc_has hL) hn rfl (fun la' hl => k p e s m args below meth c F H lo la' hH hS (mLR_set1 (v := vR k0 n0) rfl hl) (mOk_set hO))
theorem g_lstore_n {q : Fin 4} {i : Nat} {x : Int64} (hd : iAt Y.2.2.1 pc (.lstore_n q) 1 pc') (hi : (q : Nat) = i) (hn : i + 1 < Y.2.2.2.1) (hs : setL ls i (vL x) = ls') (k : LW G rd R Y Z top cells slots pc' ls' st M) : LW G rd R Y Z top cells slots pc ls (vL x :: st) M := by
  obtain ⟨hd, rfl⟩ := hd; subst hs
  intro p e s m args below meth c F H lo la hH hS hL hO
  exact lv_lstore_n F.1 F.2.1 hd hi (asc_has hL) hn rfl (fun la' hl => k p e s m args below meth c F H lo la' hH hS (mLR_set2 rfl hl) (mOk_set hO))
theorem g_lstore {i : Nat} {x : Int64} (hd : iAt Y.2.2.1 pc (.lstore i) 2 pc') (hn : i + 1 < Y.2.2.2.1) (hs : setL ls i (vL x) = ls') (k : LW G rd R Y Z top cells slots pc' ls' st M) : LW G rd R Y Z top cells slots pc ls (vL x :: st) M := by
  obtain ⟨hd, rfl⟩ := hd; subst hs
  intro p e s m args below meth c F H lo la hH hS hL hO
  exact lv_lstore F.1 F.2.1 hd (asc_has hL) hn rfl (fun la' hl => k p e s m args below meth c F H lo la' hH hS (mLR_set2 rfl hl) (mOk_set hO))
theorem g_iinc {i : Nat} {n : Int} {x v : Int32} (hd : iAt Y.2.2.1 pc (.iinc i n) 3 pc') (hx : ls[i]? = some (some (vI x))) (hv : x + Int32.ofInt n = v) (hn : i < Y.2.2.2.1) (hs : setL ls i (vI v) = ls') (k : LW G rd R Y Z top cells slots pc' ls' st M) : LW G rd R Y Z top cells slots pc ls st M := by
  obtain ⟨hd, rfl⟩ := hd; subst hs
  intro p e s m args below meth c F H lo la hH hS hL hO
  obtain ⟨j, hj⟩ := List.getElem?_of_mem (asc_mem (G := G) hx)
  exact lv_iinc F.1 F.2.1 hd (asc_has hL) hj hv hn rfl (fun la' hl => k p e s m args below meth c F H lo la' hH hS (mLR_set1 (v := vI v) rfl hl) (mOk_set hO.i))
end GS
