/-! THE ROWS OF THE SMALL MACHINE, each proved of the real one -/
section Q
variable {k d pc : Nat} {ls : List (Option Value)} {st : List Value} {σ : fkS} {Q : Option Value → fkS → Prop}
theorem q_iadd {x y : Int32} (hd : decode (fk_M k).2.1 pc = .ok (.iadd, 1)) (h : Wq k d (pc + 1) ls (.int (x + y) :: st) σ Q) : Wq k d pc ls (.int y :: .int x :: st) σ Q := by
  intro g p l e s m args below meth c H locs lsM C hP hS hl
  exact lv_iadd C.1 C.2.1  hd (h g p l e s m args below meth c H locs lsM C hP hS hl)
theorem q_isub {x y : Int32} (hd : decode (fk_M k).2.1 pc = .ok (.isub, 1)) (h : Wq k d (pc + 1) ls (.int (x - y) :: st) σ Q) : Wq k d pc ls (.int y :: .int x :: st) σ Q := by
  intro g p l e s m args below meth c H locs lsM C hP hS hl
  exact lv_isub C.1 C.2.1  hd (h g p l e s m args below meth c H locs lsM C hP hS hl)
theorem q_imul {x y : Int32} (hd : decode (fk_M k).2.1 pc = .ok (.imul, 1)) (h : Wq k d (pc + 1) ls (.int (x * y) :: st) σ Q) : Wq k d pc ls (.int y :: .int x :: st) σ Q := by
  intro g p l e s m args below meth c H locs lsM C hP hS hl
  exact lv_imul C.1 C.2.1  hd (h g p l e s m args below meth c H locs lsM C hP hS hl)
theorem q_iand {x y : Int32} (hd : decode (fk_M k).2.1 pc = .ok (.iand, 1)) (h : Wq k d (pc + 1) ls (.int (x &&& y) :: st) σ Q) : Wq k d pc ls (.int y :: .int x :: st) σ Q := by
  intro g p l e s m args below meth c H locs lsM C hP hS hl
  exact lv_iand C.1 C.2.1  hd (h g p l e s m args below meth c H locs lsM C hP hS hl)
theorem q_ior {x y : Int32} (hd : decode (fk_M k).2.1 pc = .ok (.ior, 1)) (h : Wq k d (pc + 1) ls (.int (x ||| y) :: st) σ Q) : Wq k d pc ls (.int y :: .int x :: st) σ Q := by
  intro g p l e s m args below meth c H locs lsM C hP hS hl
  exact lv_ior C.1 C.2.1  hd (h g p l e s m args below meth c H locs lsM C hP hS hl)
theorem q_ixor {x y : Int32} (hd : decode (fk_M k).2.1 pc = .ok (.ixor, 1)) (h : Wq k d (pc + 1) ls (.int (x ^^^ y) :: st) σ Q) : Wq k d pc ls (.int y :: .int x :: st) σ Q := by
  intro g p l e s m args below meth c H locs lsM C hP hS hl
  exact lv_ixor C.1 C.2.1  hd (h g p l e s m args below meth c H locs lsM C hP hS hl)
theorem q_ishl {x y : Int32} (hd : decode (fk_M k).2.1 pc = .ok (.ishl, 1)) (h : Wq k d (pc + 1) ls (.int (x <<< (y &&& 31)) :: st) σ Q) : Wq k d pc ls (.int y :: .int x :: st) σ Q := by
  intro g p l e s m args below meth c H locs lsM C hP hS hl
  exact lv_ishl C.1 C.2.1  hd (h g p l e s m args below meth c H locs lsM C hP hS hl)
theorem q_ishr {x y : Int32} (hd : decode (fk_M k).2.1 pc = .ok (.ishr, 1)) (h : Wq k d (pc + 1) ls (.int (x >>> (y &&& 31)) :: st) σ Q) : Wq k d pc ls (.int y :: .int x :: st) σ Q := by
  intro g p l e s m args below meth c H locs lsM C hP hS hl
  exact lv_ishr C.1 C.2.1  hd (h g p l e s m args below meth c H locs lsM C hP hS hl)
def fk_ushr (x y : Int32) : Int32 := (x.toUInt32 >>> (y.toUInt32 &&& Int32.toUInt32 31)).toInt32
def fk_lushr (x : Int64) (y : Int32) : Int64 := (x.toUInt64 >>> (y.toInt64.toUInt64 &&& Int64.toUInt64 63)).toInt64
def fk_lshl (x : Int64) (y : Int32) : Int64 := x <<< (y.toInt64 &&& 63)
def fk_lshr (x : Int64) (y : Int32) : Int64 := x >>> (y.toInt64 &&& 63)
def fk_i2c (x : Int32) : Int32 := (x.toUInt32 % 65536).toInt32
theorem q_iushr {x y : Int32} (hd : decode (fk_M k).2.1 pc = .ok (.iushr, 1)) (h : Wq k d (pc + 1) ls (.int (fk_ushr x y) :: st) σ Q) : Wq k d pc ls (.int y :: .int x :: st) σ Q := by
  intro g p l e s m args below meth c H locs lsM C hP hS hl
  exact lv_iushr C.1 C.2.1  hd rfl (h g p l e s m args below meth c H locs lsM C hP hS hl)
theorem q_ladd {x y : Int64} (hd : decode (fk_M k).2.1 pc = .ok (.ladd, 1)) (h : Wq k d (pc + 1) ls (.long (x + y) :: st) σ Q) : Wq k d pc ls (.long y :: .long x :: st) σ Q := by
  intro g p l e s m args below meth c H locs lsM C hP hS hl
  exact lv_ladd C.1 C.2.1  hd (h g p l e s m args below meth c H locs lsM C hP hS hl)
theorem q_lsub {x y : Int64} (hd : decode (fk_M k).2.1 pc = .ok (.lsub, 1)) (h : Wq k d (pc + 1) ls (.long (x - y) :: st) σ Q) : Wq k d pc ls (.long y :: .long x :: st) σ Q := by
  intro g p l e s m args below meth c H locs lsM C hP hS hl
  exact lv_lsub C.1 C.2.1  hd (h g p l e s m args below meth c H locs lsM C hP hS hl)
theorem q_lmul {x y : Int64} (hd : decode (fk_M k).2.1 pc = .ok (.lmul, 1)) (h : Wq k d (pc + 1) ls (.long (x * y) :: st) σ Q) : Wq k d pc ls (.long y :: .long x :: st) σ Q := by
  intro g p l e s m args below meth c H locs lsM C hP hS hl
  exact lv_lmul C.1 C.2.1  hd (h g p l e s m args below meth c H locs lsM C hP hS hl)
theorem q_land {x y : Int64} (hd : decode (fk_M k).2.1 pc = .ok (.land, 1)) (h : Wq k d (pc + 1) ls (.long (x &&& y) :: st) σ Q) : Wq k d pc ls (.long y :: .long x :: st) σ Q := by
  intro g p l e s m args below meth c H locs lsM C hP hS hl
  exact lv_land C.1 C.2.1  hd (h g p l e s m args below meth c H locs lsM C hP hS hl)
theorem q_lor {x y : Int64} (hd : decode (fk_M k).2.1 pc = .ok (.lor, 1)) (h : Wq k d (pc + 1) ls (.long (x ||| y) :: st) σ Q) : Wq k d pc ls (.long y :: .long x :: st) σ Q := by
  intro g p l e s m args below meth c H locs lsM C hP hS hl
  exact lv_lor C.1 C.2.1  hd (h g p l e s m args below meth c H locs lsM C hP hS hl)
theorem q_lxor {x y : Int64} (hd : decode (fk_M k).2.1 pc = .ok (.lxor, 1)) (h : Wq k d (pc + 1) ls (.long (x ^^^ y) :: st) σ Q) : Wq k d pc ls (.long y :: .long x :: st) σ Q := by
  intro g p l e s m args below meth c H locs lsM C hP hS hl
  exact lv_lxor C.1 C.2.1  hd (h g p l e s m args below meth c H locs lsM C hP hS hl)
theorem q_lcmp {x y : Int64} (hd : decode (fk_M k).2.1 pc = .ok (.lcmp, 1)) (h : Wq k d (pc + 1) ls (.int (lg_cmp x y) :: st) σ Q) : Wq k d pc ls (.long y :: .long x :: st) σ Q := by
  intro g p l e s m args below meth c H locs lsM C hP hS hl
  exact W.lcmp C.1 C.2.1  hd (h g p l e s m args below meth c H locs lsM C hP hS hl)
theorem q_lushr {x : Int64} {y : Int32} (hd : decode (fk_M k).2.1 pc = .ok (.lushr, 1)) (h : Wq k d (pc + 1) ls (.long (fk_lushr x y) :: st) σ Q) : Wq k d pc ls (.int y :: .long x :: st) σ Q := by
  intro g p l e s m args below meth c H locs lsM C hP hS hl
  exact lv_lushr C.1 C.2.1  hd rfl (h g p l e s m args below meth c H locs lsM C hP hS hl)
theorem q_lshl {x : Int64} {y : Int32} (hd : decode (fk_M k).2.1 pc = .ok (.lshl, 1)) (h : Wq k d (pc + 1) ls (.long (fk_lshl x y) :: st) σ Q) : Wq k d pc ls (.int y :: .long x :: st) σ Q := by
  intro g p l e s m args below meth c H locs lsM C hP hS hl
  exact lv_lshl C.1 C.2.1  hd rfl (h g p l e s m args below meth c H locs lsM C hP hS hl)
theorem q_lshr {x : Int64} {y : Int32} (hd : decode (fk_M k).2.1 pc = .ok (.lshr, 1)) (h : Wq k d (pc + 1) ls (.long (fk_lshr x y) :: st) σ Q) : Wq k d pc ls (.int y :: .long x :: st) σ Q := by
  intro g p l e s m args below meth c H locs lsM C hP hS hl
  exact lv_lshr C.1 C.2.1  hd rfl (h g p l e s m args below meth c H locs lsM C hP hS hl)
theorem q_idiv {x y : Int32} (hd : decode (fk_M k).2.1 pc = .ok (.idiv, 1)) (hne : ¬ y = 0) (h : Wq k d (pc + 1) ls (.int (x / y) :: st) σ Q) : Wq k d pc ls (.int y :: .int x :: st) σ Q := by
  intro g p l e s m args below meth c H locs lsM C hP hS hl
  exact lv_idiv C.1 C.2.1  hd hne (h g p l e s m args below meth c H locs lsM C hP hS hl)
theorem q_irem {x y : Int32} (hd : decode (fk_M k).2.1 pc = .ok (.irem, 1)) (hne : ¬ y = 0) (h : Wq k d (pc + 1) ls (.int (x - x / y * y) :: st) σ Q) : Wq k d pc ls (.int y :: .int x :: st) σ Q := by
  intro g p l e s m args below meth c H locs lsM C hP hS hl
  exact lv_irem C.1 C.2.1  hd hne (h g p l e s m args below meth c H locs lsM C hP hS hl)
theorem q_ldiv {x y : Int64} (hd : decode (fk_M k).2.1 pc = .ok (.ldiv, 1)) (hne : ¬ y = 0) (h : Wq k d (pc + 1) ls (.long (x / y) :: st) σ Q) : Wq k d pc ls (.long y :: .long x :: st) σ Q := by
  intro g p l e s m args below meth c H locs lsM C hP hS hl
  exact lv_ldiv C.1 C.2.1  hd hne (h g p l e s m args below meth c H locs lsM C hP hS hl)
theorem q_lrem {x y : Int64} (hd : decode (fk_M k).2.1 pc = .ok (.lrem, 1)) (hne : ¬ y = 0) (h : Wq k d (pc + 1) ls (.long (x - x / y * y) :: st) σ Q) : Wq k d pc ls (.long y :: .long x :: st) σ Q := by
  intro g p l e s m args below meth c H locs lsM C hP hS hl
  exact lv_lrem C.1 C.2.1  hd hne (h g p l e s m args below meth c H locs lsM C hP hS hl)
theorem q_ineg {x : Int32} (hd : decode (fk_M k).2.1 pc = .ok (.ineg, 1)) (h : Wq k d (pc + 1) ls (.int (-x) :: st) σ Q) : Wq k d pc ls (.int x :: st) σ Q := by
  intro g p l e s m args below meth c H locs lsM C hP hS hl
  exact lv_ineg C.1 C.2.1  hd (h g p l e s m args below meth c H locs lsM C hP hS hl)
theorem q_lneg {x : Int64} (hd : decode (fk_M k).2.1 pc = .ok (.lneg, 1)) (h : Wq k d (pc + 1) ls (.long (-x) :: st) σ Q) : Wq k d pc ls (.long x :: st) σ Q := by
  intro g p l e s m args below meth c H locs lsM C hP hS hl
  exact lv_lneg C.1 C.2.1  hd (h g p l e s m args below meth c H locs lsM C hP hS hl)
theorem q_i2l {x : Int32} (hd : decode (fk_M k).2.1 pc = .ok (.i2l, 1)) (h : Wq k d (pc + 1) ls (.long x.toInt64 :: st) σ Q) : Wq k d pc ls (.int x :: st) σ Q := by
  intro g p l e s m args below meth c H locs lsM C hP hS hl
  exact lv_i2l C.1 C.2.1  hd rfl (h g p l e s m args below meth c H locs lsM C hP hS hl)
theorem q_l2i {x : Int64} (hd : decode (fk_M k).2.1 pc = .ok (.l2i, 1)) (h : Wq k d (pc + 1) ls (.int x.toInt32 :: st) σ Q) : Wq k d pc ls (.long x :: st) σ Q := by
  intro g p l e s m args below meth c H locs lsM C hP hS hl
  exact lv_l2i C.1 C.2.1  hd rfl (h g p l e s m args below meth c H locs lsM C hP hS hl)
theorem q_i2b {x : Int32} (hd : decode (fk_M k).2.1 pc = .ok (.i2b, 1)) (h : Wq k d (pc + 1) ls (.int x.toInt8.toInt32 :: st) σ Q) : Wq k d pc ls (.int x :: st) σ Q := by
  intro g p l e s m args below meth c H locs lsM C hP hS hl
  exact lv_i2b C.1 C.2.1  hd rfl (h g p l e s m args below meth c H locs lsM C hP hS hl)
theorem q_i2c {x : Int32} (hd : decode (fk_M k).2.1 pc = .ok (.i2c, 1)) (h : Wq k d (pc + 1) ls (.int (fk_i2c x) :: st) σ Q) : Wq k d pc ls (.int x :: st) σ Q := by
  intro g p l e s m args below meth c H locs lsM C hP hS hl
  exact lv_i2c C.1 C.2.1  hd rfl (h g p l e s m args below meth c H locs lsM C hP hS hl)
theorem q_iconst {n : Int} {v : Int32} (hd : decode (fk_M k).2.1 pc = .ok (.iconst n, 1)) (hv : Int32.ofInt n = v) (h : Wq k d (pc + 1) ls (.int v :: st) σ Q) : Wq k d pc ls st σ Q := by
  intro g p l e s m args below meth c H locs lsM C hP hS hl
  exact lv_iconst C.1 C.2.1 hd hv (h g p l e s m args below meth c H locs lsM C hP hS hl)
theorem q_bipush {n : Int} {v : Int32} (hd : decode (fk_M k).2.1 pc = .ok (.bipush n, 2)) (hv : (Int8.ofInt n).toInt32 = v) (h : Wq k d (pc + 2) ls (.int v :: st) σ Q) : Wq k d pc ls st σ Q := by
  intro g p l e s m args below meth c H locs lsM C hP hS hl
  exact lv_bipush C.1 C.2.1 hd hv (h g p l e s m args below meth c H locs lsM C hP hS hl)
theorem q_sipush {n : Int} {v : Int32} (hd : decode (fk_M k).2.1 pc = .ok (.sipush n, 3)) (hv : (Int16.ofInt n).toInt32 = v) (h : Wq k d (pc + 3) ls (.int v :: st) σ Q) : Wq k d pc ls st σ Q := by
  intro g p l e s m args below meth c H locs lsM C hP hS hl
  exact lv_sipush C.1 C.2.1 hd hv (h g p l e s m args below meth c H locs lsM C hP hS hl)
theorem q_lconst {n : Fin 2} {v : Int64} (hd : decode (fk_M k).2.1 pc = .ok (.lconst n, 1)) (hv : Int64.ofNat (n : Nat) = v) (h : Wq k d (pc + 1) ls (.long v :: st) σ Q) : Wq k d pc ls st σ Q := by
  intro g p l e s m args below meth c H locs lsM C hP hS hl
  exact lv_lconst C.1 C.2.1 hd hv (h g p l e s m args below meth c H locs lsM C hP hS hl)
theorem q_ldc {i : Nat} {v : Int32} (hd : decode (fk_M k).2.1 pc = .ok (.ldc i, 2)) (hw : Cond.constant (fk_M k).1.cls i v ∈ lw_tbl) (h : Wq k d (pc + 2) ls (.int v :: st) σ Q) : Wq k d pc ls st σ Q := by
  intro g p l e s m args below meth c H locs lsM C hP hS hl
  exact lv_ldc C.1 C.2.1 C.2.2.2.2.2.1 (C.2.2.2.2.2.2.1 _ (fk_inW hw rfl)) hd (h g p l e s m args below meth c H locs lsM C hP hS hl)
theorem q_ldcw {i : Nat} {v : Int32} (hd : decode (fk_M k).2.1 pc = .ok (.ldc_w i, 3)) (hw : Cond.constant (fk_M k).1.cls i v ∈ lw_tbl) (h : Wq k d (pc + 3) ls (.int v :: st) σ Q) : Wq k d pc ls st σ Q := by
  intro g p l e s m args below meth c H locs lsM C hP hS hl
  exact lv_ldcw C.1 C.2.1 C.2.2.2.2.2.1 (C.2.2.2.2.2.2.1 _ (fk_inW hw rfl)) hd (h g p l e s m args below meth c H locs lsM C hP hS hl)
theorem q_ldc2 {i : Nat} {v : Int64} (hd : decode (fk_M k).2.1 pc = .ok (.ldc2_w i, 3)) (hw : Cond.constantLong (fk_M k).1.cls i v ∈ lw_tbl) (h : Wq k d (pc + 3) ls (.long v :: st) σ Q) : Wq k d pc ls st σ Q := by
  intro g p l e s m args below meth c H locs lsM C hP hS hl
  exact lv_ldc2 C.1 C.2.1 C.2.2.2.2.2.1 (C.2.2.2.2.2.2.1 _ (fk_inW hw rfl)) hd (h g p l e s m args below meth c H locs lsM C hP hS hl)
theorem q_iload {i : Nat} {x : Int32} (hd : decode (fk_M k).2.1 pc = .ok (.iload i, 2)) (hv : ls[i]? = some (some (.int x))) (h : Wq k d (pc + 2) ls (.int x :: st) σ Q) : Wq k d pc ls st σ Q := by
  intro g p l e s m args below meth c H locs lsM C hP hS hl
  exact lv_iload C.1 C.2.1 hd (fk_ldv hl hv) (h g p l e s m args below meth c H locs lsM C hP hS hl)
theorem q_iload_n {j : Fin 4} {x : Int32} (hd : decode (fk_M k).2.1 pc = .ok (.iload_n j, 1)) (hv : ls[(j : Nat)]? = some (some (.int x))) (h : Wq k d (pc + 1) ls (.int x :: st) σ Q) : Wq k d pc ls st σ Q := by
  intro g p l e s m args below meth c H locs lsM C hP hS hl
  exact lv_iload_n C.1 C.2.1 hd rfl (fk_ldv hl hv) (h g p l e s m args below meth c H locs lsM C hP hS hl)
theorem q_lload {i : Nat} {x : Int64} (hd : decode (fk_M k).2.1 pc = .ok (.lload i, 2)) (hv : ls[i]? = some (some (.long x))) (h : Wq k d (pc + 2) ls (.long x :: st) σ Q) : Wq k d pc ls st σ Q := by
  intro g p l e s m args below meth c H locs lsM C hP hS hl
  exact lv_lload C.1 C.2.1 hd (fk_ldv hl hv) (h g p l e s m args below meth c H locs lsM C hP hS hl)
theorem q_lload_n {j : Fin 4} {x : Int64} (hd : decode (fk_M k).2.1 pc = .ok (.lload_n j, 1)) (hv : ls[(j : Nat)]? = some (some (.long x))) (h : Wq k d (pc + 1) ls (.long x :: st) σ Q) : Wq k d pc ls st σ Q := by
  intro g p l e s m args below meth c H locs lsM C hP hS hl
  exact lv_lload_n C.1 C.2.1 hd rfl (fk_ldv hl hv) (h g p l e s m args below meth c H locs lsM C hP hS hl)
theorem q_aload {i : Nat} {x : Nat} (hd : decode (fk_M k).2.1 pc = .ok (.aload i, 2)) (hv : ls[i]? = some (some (.ref x))) (h : Wq k d (pc + 2) ls (.ref x :: st) σ Q) : Wq k d pc ls st σ Q := by
  intro g p l e s m args below meth c H locs lsM C hP hS hl
  exact lv_aload C.1 C.2.1 hd (fk_ldv hl hv) (h g p l e s m args below meth c H locs lsM C hP hS hl)
theorem q_aload_n {j : Fin 4} {x : Nat} (hd : decode (fk_M k).2.1 pc = .ok (.aload_n j, 1)) (hv : ls[(j : Nat)]? = some (some (.ref x))) (h : Wq k d (pc + 1) ls (.ref x :: st) σ Q) : Wq k d pc ls st σ Q := by
  intro g p l e s m args below meth c H locs lsM C hP hS hl
  exact lv_aload_n C.1 C.2.1 hd rfl (fk_ldv hl hv) (h g p l e s m args below meth c H locs lsM C hP hS hl)
theorem q_istore {i : Nat} {x : Int32} (hd : decode (fk_M k).2.1 pc = .ok (.istore i, 2)) (hi : i < (fk_M k).2.2.1) (h : Wq k d (pc + 2) (fk_st1 ls i (.int x)) st σ Q) : Wq k d pc ls (.int x :: st) σ Q := by
  intro g p l e s m args below meth c H locs lsM C hP hS hl
  exact lv_istore C.1 C.2.1 hd hl hi rfl (fun lsN hv => h g p l e s m args below meth c H locs lsN C hP hS (fk_st1_has hv))
theorem q_istore_n {j : Fin 4} {x : Int32} (hd : decode (fk_M k).2.1 pc = .ok (.istore_n j, 1)) (hi : (j : Nat) < (fk_M k).2.2.1) (h : Wq k d (pc + 1) (fk_st1 ls (j : Nat) (.int x)) st σ Q) : Wq k d pc ls (.int x :: st) σ Q := by
  intro g p l e s m args below meth c H locs lsM C hP hS hl
  exact lv_istore_n C.1 C.2.1 hd rfl hl hi rfl (fun lsN hv => h g p l e s m args below meth c H locs lsN C hP hS (fk_st1_has hv))
theorem q_lstore {i : Nat} {x : Int64} (hd : decode (fk_M k).2.1 pc = .ok (.lstore i, 2)) (hi : i + 1 < (fk_M k).2.2.1) (h : Wq k d (pc + 2) (fk_st2 ls i (.long x)) st σ Q) : Wq k d pc ls (.long x :: st) σ Q := by
  intro g p l e s m args below meth c H locs lsM C hP hS hl
  exact lv_lstore C.1 C.2.1 hd hl hi rfl (fun lsN hv => h g p l e s m args below meth c H locs lsN C hP hS (fk_st2_has hv))
theorem q_lstore_n {j : Fin 4} {x : Int64} (hd : decode (fk_M k).2.1 pc = .ok (.lstore_n j, 1)) (hi : (j : Nat) + 1 < (fk_M k).2.2.1) (h : Wq k d (pc + 1) (fk_st2 ls (j : Nat) (.long x)) st σ Q) : Wq k d pc ls (.long x :: st) σ Q := by
  intro g p l e s m args below meth c H locs lsM C hP hS hl
  exact lv_lstore_n C.1 C.2.1 hd rfl hl hi rfl (fun lsN hv => h g p l e s m args below meth c H locs lsN C hP hS (fk_st2_has hv))
theorem q_astore {i : Nat} {x : Nat} (hd : decode (fk_M k).2.1 pc = .ok (.astore i, 2)) (hi : i < (fk_M k).2.2.1) (h : Wq k d (pc + 2) (fk_st1 ls i (.ref x)) st σ Q) : Wq k d pc ls (.ref x :: st) σ Q := by
  intro g p l e s m args below meth c H locs lsM C hP hS hl
  exact lv_astore C.1 C.2.1 hd hl hi rfl (fun lsN hv => h g p l e s m args below meth c H locs lsN C hP hS (fk_st1_has hv))
theorem q_astore_n {j : Fin 4} {x : Nat} (hd : decode (fk_M k).2.1 pc = .ok (.astore_n j, 1)) (hi : (j : Nat) < (fk_M k).2.2.1) (h : Wq k d (pc + 1) (fk_st1 ls (j : Nat) (.ref x)) st σ Q) : Wq k d pc ls (.ref x :: st) σ Q := by
  intro g p l e s m args below meth c H locs lsM C hP hS hl
  exact lv_astore_n C.1 C.2.1 hd rfl hl hi rfl (fun lsN hv => h g p l e s m args below meth c H locs lsN C hP hS (fk_st1_has hv))
theorem q_iinc {i : Nat} {n : Int} {x : Int32} (hd : decode (fk_M k).2.1 pc = .ok (.iinc i n, 3)) (hv : ls[i]? = some (some (.int x))) (hi : i < (fk_M k).2.2.1) (h : Wq k d (pc + 3) (fk_st1 ls i (.int (x + Int32.ofInt n))) st σ Q) : Wq k d pc ls st σ Q := by
  intro g p l e s m args below meth c H locs lsM C hP hS hl
  obtain ⟨q, hq⟩ := List.getElem?_of_mem (fk_al_mem (g := g).mpr ⟨_, hv, rfl⟩)
  exact lv_iinc C.1 C.2.1 hd hl (k := q) hq rfl hi rfl (fun lsN hv => h g p l e s m args below meth c H locs lsN C hP hS (fk_st1_has hv))
theorem q_dup {v : Value} (hd : decode (fk_M k).2.1 pc = .ok (.dup, 1)) (hv : v.category = 1) (h : Wq k d (pc + 1) ls (v :: v :: st) σ Q) : Wq k d pc ls (v :: st) σ Q := by
  intro g p l e s m args below meth c H locs lsM C hP hS hl
  exact lv_dup C.1 C.2.1 hd ((fk_tr_cat g v).trans hv) (h g p l e s m args below meth c H locs lsM C hP hS hl)
theorem q_pop {v : Value} (hd : decode (fk_M k).2.1 pc = .ok (.pop, 1)) (hv : v.category = 1) (h : Wq k d (pc + 1) ls st σ Q) : Wq k d pc ls (v :: st) σ Q := by
  intro g p l e s m args below meth c H locs lsM C hP hS hl
  exact lv_pop C.1 C.2.1 hd ((fk_tr_cat g v).trans hv) (h g p l e s m args below meth c H locs lsM C hP hS hl)
theorem q_pop2 {v : Value} (hd : decode (fk_M k).2.1 pc = .ok (.pop2, 1)) (hv : v.category = 2) (h : Wq k d (pc + 1) ls st σ Q) : Wq k d pc ls (v :: st) σ Q := by
  intro g p l e s m args below meth c H locs lsM C hP hS hl
  exact lv_pop2_2 C.1 C.2.1 hd ((fk_tr_cat g v).trans hv) (h g p l e s m args below meth c H locs lsM C hP hS hl)
theorem q_dup2 {v u : Value} (hd : decode (fk_M k).2.1 pc = .ok (.dup2, 1)) (hv : v.category = 1) (hu : u.category = 1) (h : Wq k d (pc + 1) ls (v :: u :: v :: u :: st) σ Q) : Wq k d pc ls (v :: u :: st) σ Q := by
  intro g p l e s m args below meth c H locs lsM C hP hS hl
  exact lv_dup2_11 C.1 C.2.1 hd ((fk_tr_cat g v).trans hv) ((fk_tr_cat g u).trans hu) (h g p l e s m args below meth c H locs lsM C hP hS hl)
theorem q_dup_x1 {v u : Value} (hd : decode (fk_M k).2.1 pc = .ok (.dup_x1, 1)) (hv : v.category = 1) (hu : u.category = 1) (h : Wq k d (pc + 1) ls (v :: u :: v :: st) σ Q) : Wq k d pc ls (v :: u :: st) σ Q := by
  intro g p l e s m args below meth c H locs lsM C hP hS hl
  exact lv_dup_x1 C.1 C.2.1 hd ((fk_tr_cat g v).trans hv) ((fk_tr_cat g u).trans hu) (h g p l e s m args below meth c H locs lsM C hP hS hl)
theorem q_if_eq {x : Int32} {off : Int} {tgt : Nat} (hd : decode (fk_M k).2.1 pc = .ok (.ifCond .eq off, 3)) (ht : (pc : Int) + off = (tgt : Int)) (hh : (x = 0 → Wq k d tgt ls st σ Q) ∧ (¬ x = 0 → Wq k d (pc + 3) ls st σ Q)) : Wq k d pc ls (.int x :: st) σ Q := by
  intro g p l e s m args below meth c H locs lsM C hP hS hl
  exact lv_if_eq C.1 C.2.1 hd ht (fun z => hh.1 z g p l e s m args below meth c H locs lsM C hP hS hl) (fun z => hh.2 z g p l e s m args below meth c H locs lsM C hP hS hl)
theorem q_icmp_eq {x y : Int32} {off : Int} {tgt : Nat} (hd : decode (fk_M k).2.1 pc = .ok (.if_icmp .eq off, 3)) (ht : (pc : Int) + off = (tgt : Int)) (hh : (x = y → Wq k d tgt ls st σ Q) ∧ (¬ x = y → Wq k d (pc + 3) ls st σ Q)) : Wq k d pc ls (.int y :: .int x :: st) σ Q := by
  intro g p l e s m args below meth c H locs lsM C hP hS hl
  exact lv_icmp_eq C.1 C.2.1 hd ht (fun z => hh.1 z g p l e s m args below meth c H locs lsM C hP hS hl) (fun z => hh.2 z g p l e s m args below meth c H locs lsM C hP hS hl)
theorem q_if_ne {x : Int32} {off : Int} {tgt : Nat} (hd : decode (fk_M k).2.1 pc = .ok (.ifCond .ne off, 3)) (ht : (pc : Int) + off = (tgt : Int)) (hh : (¬ x = 0 → Wq k d tgt ls st σ Q) ∧ (x = 0 → Wq k d (pc + 3) ls st σ Q)) : Wq k d pc ls (.int x :: st) σ Q := by
  intro g p l e s m args below meth c H locs lsM C hP hS hl
  exact lv_if_ne C.1 C.2.1 hd ht (fun z => hh.1 z g p l e s m args below meth c H locs lsM C hP hS hl) (fun z => hh.2 z g p l e s m args below meth c H locs lsM C hP hS hl)
theorem q_icmp_ne {x y : Int32} {off : Int} {tgt : Nat} (hd : decode (fk_M k).2.1 pc = .ok (.if_icmp .ne off, 3)) (ht : (pc : Int) + off = (tgt : Int)) (hh : (¬ x = y → Wq k d tgt ls st σ Q) ∧ (x = y → Wq k d (pc + 3) ls st σ Q)) : Wq k d pc ls (.int y :: .int x :: st) σ Q := by
  intro g p l e s m args below meth c H locs lsM C hP hS hl
  exact lv_icmp_ne C.1 C.2.1 hd ht (fun z => hh.1 z g p l e s m args below meth c H locs lsM C hP hS hl) (fun z => hh.2 z g p l e s m args below meth c H locs lsM C hP hS hl)
theorem q_if_lt {x : Int32} {off : Int} {tgt : Nat} (hd : decode (fk_M k).2.1 pc = .ok (.ifCond .lt off, 3)) (ht : (pc : Int) + off = (tgt : Int)) (hh : (x < 0 → Wq k d tgt ls st σ Q) ∧ (¬ x < 0 → Wq k d (pc + 3) ls st σ Q)) : Wq k d pc ls (.int x :: st) σ Q := by
  intro g p l e s m args below meth c H locs lsM C hP hS hl
  exact lv_if_lt C.1 C.2.1 hd ht (fun z => hh.1 z g p l e s m args below meth c H locs lsM C hP hS hl) (fun z => hh.2 z g p l e s m args below meth c H locs lsM C hP hS hl)
theorem q_icmp_lt {x y : Int32} {off : Int} {tgt : Nat} (hd : decode (fk_M k).2.1 pc = .ok (.if_icmp .lt off, 3)) (ht : (pc : Int) + off = (tgt : Int)) (hh : (x < y → Wq k d tgt ls st σ Q) ∧ (¬ x < y → Wq k d (pc + 3) ls st σ Q)) : Wq k d pc ls (.int y :: .int x :: st) σ Q := by
  intro g p l e s m args below meth c H locs lsM C hP hS hl
  exact lv_icmp_lt C.1 C.2.1 hd ht (fun z => hh.1 z g p l e s m args below meth c H locs lsM C hP hS hl) (fun z => hh.2 z g p l e s m args below meth c H locs lsM C hP hS hl)
theorem q_if_ge {x : Int32} {off : Int} {tgt : Nat} (hd : decode (fk_M k).2.1 pc = .ok (.ifCond .ge off, 3)) (ht : (pc : Int) + off = (tgt : Int)) (hh : (0 ≤ x → Wq k d tgt ls st σ Q) ∧ (¬ 0 ≤ x → Wq k d (pc + 3) ls st σ Q)) : Wq k d pc ls (.int x :: st) σ Q := by
  intro g p l e s m args below meth c H locs lsM C hP hS hl
  exact lv_if_ge C.1 C.2.1 hd ht (fun z => hh.1 z g p l e s m args below meth c H locs lsM C hP hS hl) (fun z => hh.2 z g p l e s m args below meth c H locs lsM C hP hS hl)
theorem q_icmp_ge {x y : Int32} {off : Int} {tgt : Nat} (hd : decode (fk_M k).2.1 pc = .ok (.if_icmp .ge off, 3)) (ht : (pc : Int) + off = (tgt : Int)) (hh : (y ≤ x → Wq k d tgt ls st σ Q) ∧ (¬ y ≤ x → Wq k d (pc + 3) ls st σ Q)) : Wq k d pc ls (.int y :: .int x :: st) σ Q := by
  intro g p l e s m args below meth c H locs lsM C hP hS hl
  exact lv_icmp_ge C.1 C.2.1 hd ht (fun z => hh.1 z g p l e s m args below meth c H locs lsM C hP hS hl) (fun z => hh.2 z g p l e s m args below meth c H locs lsM C hP hS hl)
theorem q_if_gt {x : Int32} {off : Int} {tgt : Nat} (hd : decode (fk_M k).2.1 pc = .ok (.ifCond .gt off, 3)) (ht : (pc : Int) + off = (tgt : Int)) (hh : (0 < x → Wq k d tgt ls st σ Q) ∧ (¬ 0 < x → Wq k d (pc + 3) ls st σ Q)) : Wq k d pc ls (.int x :: st) σ Q := by
  intro g p l e s m args below meth c H locs lsM C hP hS hl
  exact lv_if_gt C.1 C.2.1 hd ht (fun z => hh.1 z g p l e s m args below meth c H locs lsM C hP hS hl) (fun z => hh.2 z g p l e s m args below meth c H locs lsM C hP hS hl)
theorem q_icmp_gt {x y : Int32} {off : Int} {tgt : Nat} (hd : decode (fk_M k).2.1 pc = .ok (.if_icmp .gt off, 3)) (ht : (pc : Int) + off = (tgt : Int)) (hh : (y < x → Wq k d tgt ls st σ Q) ∧ (¬ y < x → Wq k d (pc + 3) ls st σ Q)) : Wq k d pc ls (.int y :: .int x :: st) σ Q := by
  intro g p l e s m args below meth c H locs lsM C hP hS hl
  exact lv_icmp_gt C.1 C.2.1 hd ht (fun z => hh.1 z g p l e s m args below meth c H locs lsM C hP hS hl) (fun z => hh.2 z g p l e s m args below meth c H locs lsM C hP hS hl)
theorem q_if_le {x : Int32} {off : Int} {tgt : Nat} (hd : decode (fk_M k).2.1 pc = .ok (.ifCond .le off, 3)) (ht : (pc : Int) + off = (tgt : Int)) (hh : (x ≤ 0 → Wq k d tgt ls st σ Q) ∧ (¬ x ≤ 0 → Wq k d (pc + 3) ls st σ Q)) : Wq k d pc ls (.int x :: st) σ Q := by
  intro g p l e s m args below meth c H locs lsM C hP hS hl
  exact lv_if_le C.1 C.2.1 hd ht (fun z => hh.1 z g p l e s m args below meth c H locs lsM C hP hS hl) (fun z => hh.2 z g p l e s m args below meth c H locs lsM C hP hS hl)
theorem q_icmp_le {x y : Int32} {off : Int} {tgt : Nat} (hd : decode (fk_M k).2.1 pc = .ok (.if_icmp .le off, 3)) (ht : (pc : Int) + off = (tgt : Int)) (hh : (x ≤ y → Wq k d tgt ls st σ Q) ∧ (¬ x ≤ y → Wq k d (pc + 3) ls st σ Q)) : Wq k d pc ls (.int y :: .int x :: st) σ Q := by
  intro g p l e s m args below meth c H locs lsM C hP hS hl
  exact lv_icmp_le C.1 C.2.1 hd ht (fun z => hh.1 z g p l e s m args below meth c H locs lsM C hP hS hl) (fun z => hh.2 z g p l e s m args below meth c H locs lsM C hP hS hl)
theorem q_goto {off : Int} {tgt : Nat} (hd : decode (fk_M k).2.1 pc = .ok (.goto off, 3)) (ht : (pc : Int) + off = (tgt : Int)) (h : Wq k d tgt ls st σ Q) : Wq k d pc ls st σ Q := by
  intro g p l e s m args below meth c H locs lsM C hP hS hl
  exact lv_goto C.1 C.2.1 hd ht (h g p l e s m args below meth c H locs lsM C hP hS hl)
/-- a switch over a stretch of numbers -/
def fk_tsw (x : Int) (lo : Int) : List Nat → (Nat → Prop) → Prop
  | [], _ => True
  | t :: ts, J => (x = lo → J t) ∧ fk_tsw x (lo + 1) ts J
theorem fk_tsw_get {x : Int} {J : Nat → Prop} : ∀ {ts : List Nat} {lo : Int} {i : Nat} {t : Nat}, fk_tsw x lo ts J → ts[i]? = some t → x = lo + i → J t
  | [], _, _, _, _, h, _ => by simp at h
  | u :: ts, lo, 0, t, hs, h, hx => by
    simp at h
    subst h
    exact hs.1 (by omega)
  | u :: ts, lo, i + 1, t, hs, h, hx => by
    exact fk_tsw_get (i := i) hs.2 (by simpa using h) (by omega)
theorem q_tsw {dflt lo hi : Int} {offs : Array Int} {len : Nat} {x : Int32} {t0 : Nat} {ts : List Nat} (hd : decode (fk_M k).2.1 pc = .ok (.tableswitch dflt lo hi offs, len)) (h0 : (pc : Int) + dflt = (t0 : Int)) (hts : offs.toList.map (fun o => (pc : Int) + o) = ts.map (fun t : Nat => (t : Int))) (hn : hi - lo + 1 = ts.length)
    (hh : ((x.toInt < lo ∨ hi < x.toInt) → Wq k d t0 ls st σ Q) ∧ fk_tsw x.toInt lo ts (fun t => Wq k d t ls st σ Q)) : Wq k d pc ls (.int x :: st) σ Q := by
  intro g p l e s m args below meth c H locs lsM C hP hS hl
  by_cases h1 : x.toInt < lo
  · exact lv_tableOut C.1 C.2.1 hd (Or.inl h1) h0 (hh.1 (Or.inl h1) g p l e s m args below meth c H locs lsM C hP hS hl)
  by_cases h2 : hi < x.toInt
  · exact lv_tableOut C.1 C.2.1 hd (Or.inr h2) h0 (hh.1 (Or.inr h2) g p l e s m args below meth c H locs lsM C hP hS hl)
  have hlt : (x.toInt - lo).toNat < ts.length := by omega
  obtain ⟨t, ht⟩ : ∃ t, ts[(x.toInt - lo).toNat]? = some t := ⟨_, List.getElem?_eq_getElem hlt⟩
  have e1 : (offs.toList.map (fun o => (pc : Int) + o))[(x.toInt - lo).toNat]? = some (t : Int) := by rw [hts, List.getElem?_map, ht]; rfl
  rw [List.getElem?_map] at e1
  cases ho : offs.toList[(x.toInt - lo).toNat]? with
  | none => rw [ho] at e1; cases e1
  | some off =>
    rw [ho] at e1
    have e2 : (pc : Int) + off = (t : Int) := Option.some.inj e1
    have ho' : offs[(x.toInt - lo).toNat]? = some off := by rw [← Array.getElem?_toList]; exact ho
    exact lv_tableIn C.1 C.2.1 hd h1 h2 ho' e2 (fk_tsw_get hh.2 ht (by omega) g p l e s m args below meth c H locs lsM C hP hS hl)
/-- a switch over scattered numbers -/
def fk_lsw (x : Int) (t0 : Nat) : List (Int × Nat) → (Nat → Prop) → Prop
  | [], J => J t0
  | (a, t) :: r, J => (x = a → J t) ∧ (¬ x = a → fk_lsw x t0 r J)
theorem q_lsw {dflt : Int} {ps : Array (Int × Int)} {len : Nat} {x : Int32} {t0 : Nat} {ts : List (Int × Nat)} (hd : decode (fk_M k).2.1 pc = .ok (.lookupswitch dflt ps, len)) (hp : (ps.toList.zip (ps.toList.drop 1)).all (fun (a, next) => a.1 < next.1) = true) (h0 : (pc : Int) + dflt = (t0 : Int)) (hts : ps.toList.map (fun o => (o.1, (pc : Int) + o.2)) = ts.map (fun t : Int × Nat => (t.1, (t.2 : Int))))
    (hh : fk_lsw x.toInt t0 ts (fun t => Wq k d t ls st σ Q)) : Wq k d pc ls (.int x :: st) σ Q := by
  intro g p l e s m args below meth c H locs lsM C hP hS hl
  have key : ∀ (q : List (Int × Int)) (r : List (Int × Nat)), q.map (fun o => (o.1, (pc : Int) + o.2)) = r.map (fun t : Int × Nat => (t.1, (t.2 : Int))) → fk_lsw x.toInt t0 r (fun t => Wq k d t ls st σ Q) → ∃ t : Nat, (pc : Int) + Op.lookupswitch.offset q dflt x.toInt = (t : Int) ∧ Wq k d t ls st σ Q := by
    intro q
    induction q with
    | nil =>
      intro r hr hz
      cases r with
      | nil => exact ⟨t0, h0, hz⟩
      | cons a r => simp at hr
    | cons a q ih =>
      intro r hr hz
      cases r with
      | nil => simp at hr
      | cons b r =>
        obtain ⟨b1, b2⟩ := b
        obtain ⟨a1, a2⟩ := a
        simp only [List.map_cons, List.cons.injEq, Prod.mk.injEq] at hr
        obtain ⟨⟨e1, e2⟩, e3⟩ := hr
        subst e1
        by_cases hx : x.toInt = a1
        · refine ⟨b2, ?_, hz.1 hx⟩
          rw [← e2]
          simp [Op.lookupswitch.offset, hx]
        · obtain ⟨t, ht, hw⟩ := ih r e3 (hz.2 hx)
          refine ⟨t, ?_, hw⟩
          rw [← ht]
          have hx2 : ¬ a1 = x.toInt := fun z => hx z.symm
          simp [Op.lookupswitch.offset, hx2]
  obtain ⟨t, ht, hw⟩ := key ps.toList ts hts hh
  exact lv_lookup C.1 C.2.1 hd hp rfl ht (hw g p l e s m args below meth c H locs lsM C hP hS hl)
end Q
