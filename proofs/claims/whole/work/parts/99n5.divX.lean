/-! NUMBERS, the class: quotients and shifts -/
theorem u4_self (a : Int32) : nI (u4 a) = a := u4_inj (u4_nI (u4_lt a))
theorem u8_lN {n : Nat} (h : n < 2 ^ 64) : u8 (lN n) = n := (BitVec.toNat_ofNat _ _).trans (Nat.mod_eq_of_lt h)
theorem u8_self (a : Int64) : lN (u8 a) = a := u8_inj (u8_lN (u8_lt a))
theorem and32 (v : Int64) : v &&& (Int64.ofNat 4294967295) = lN (lo32 v) := by
  have h : lo32 v < 2 ^ 32 := Nat.mod_lt _ (Nat.two_pow_pos 32)
  apply u8_inj
  rw [u8_lN (by omega), u8_and, show u8 (Int64.ofNat 4294967295) = 2 ^ 32 - 1 from rfl, Nat.and_two_pow_sub_one_eq_mod]
  rfl
theorem lo_i32 (a : Int32) : lo32 a.toInt64 = u4 a := by
  show (a.toBitVec.signExtend 64).toNat % 2 ^ 32 = _
  rw [← BitVec.toNat_setWidth]
  have e : (a.toBitVec.signExtend 64).setWidth 32 = a.toBitVec := by
    apply BitVec.eq_of_getLsbD_eq
    intro i hi
    rw [BitVec.getLsbD_setWidth, BitVec.getLsbD_signExtend, decide_eq_true hi, decide_eq_true (show i < 64 by omega), if_pos hi]
    rfl
  rw [e]
  rfl
theorem udiv32 {x y : Int32} (hy : y ≠ 0) : ¬ (y.toInt64 &&& (Int64.ofNat 4294967295)) = 0 ∧ ((x.toInt64 &&& (Int64.ofNat 4294967295)) / (y.toInt64 &&& (Int64.ofNat 4294967295))).toInt32 = ⟨⟨x.toBitVec / y.toBitVec⟩⟩ ∧ ((x.toInt64 &&& (Int64.ofNat 4294967295)) - (x.toInt64 &&& (Int64.ofNat 4294967295)) / (y.toInt64 &&& (Int64.ofNat 4294967295)) * (y.toInt64 &&& (Int64.ofNat 4294967295))).toInt32 = ⟨⟨x.toBitVec % y.toBitVec⟩⟩ := by
  have hx := u4_lt x
  have hyl := u4_lt y
  have h0 : u4 y ≠ 0 := fun z => hy (u4_inj z)
  rw [and32, and32, lo_i32, lo_i32, pk_lRem (by omega) (by omega) (by omega), pk_lDiv (by omega) (by omega) (by omega), lN_i32, lN_i32]
  refine ⟨fun z => ?_, ?_, ?_⟩
  · have := congrArg u8 z
    rw [u8_lN (by omega)] at this
    exact h0 this
  · apply u4_inj
    rw [u4_nI (Nat.lt_of_le_of_lt (Nat.div_le_self _ _) hx)]
    show _ = (x.toBitVec / y.toBitVec).toNat
    rw [BitVec.toNat_udiv]
    rfl
  · apply u4_inj
    rw [u4_nI (Nat.lt_of_lt_of_le (Nat.mod_lt _ (by omega)) (by omega))]
    show _ = (x.toBitVec % y.toBitVec).toNat
    rw [BitVec.toNat_umod]
    rfl
/-! shifts -/
theorem shl_n {s : Nat} (a : Int32) (hs : s < 32) : (a <<< nI s).toBitVec = a.toBitVec <<< s := by
  have key : ∀ k : Fin 32, ((nI k.val).toBitVec.smod 32#32).toNat = k.val := by decide +kernel
  rw [Int32.toBitVec_shiftLeft]
  show a.toBitVec <<< ((nI s).toBitVec.smod 32#32).toNat = _
  rw [key ⟨s, hs⟩]
theorem shr_n {s : Nat} (a : Int32) (hs : s < 32) : (a >>> nI s).toBitVec = a.toBitVec.sshiftRight s := by
  have key : ∀ k : Fin 32, ((nI k.val).toBitVec.smod 32#32).toNat = k.val := by decide +kernel
  rw [Int32.toBitVec_shiftRight]
  show a.toBitVec.sshiftRight ((nI s).toBitVec.smod 32#32).toNat = _
  rw [key ⟨s, hs⟩]
theorem and31 (y : Int32) : y &&& 31 = nI (u4 y % 32) := by
  have h : u4 y % 32 < 32 := Nat.mod_lt _ (by decide)
  apply u4_inj
  rw [u4_nI (by omega), u4_and, show u4 (31 : Int32) = 2 ^ 5 - 1 from rfl, Nat.and_two_pow_sub_one_eq_mod]
theorem and63 (y : Int32) : y &&& (63 : Int32) = nI (u4 y % 64) := by
  have h : u4 y % 64 < 64 := Nat.mod_lt _ (by decide)
  apply u4_inj
  rw [u4_nI (by omega), u4_and, show u4 (63 : Int32) = 2 ^ 6 - 1 from rfl, Nat.and_two_pow_sub_one_eq_mod]
theorem ush_g (a y : Int32) : (fk_ushr a y).toBitVec = a.toBitVec >>> (u4 y % 32) := by
  have e : fk_ushr a y = fk_ushr a (nI (u4 y % 32)) := by
    have hm : u4 y % 32 < 32 := Nat.mod_lt _ (by decide)
    have e1 : y.toUInt32 &&& Int32.toUInt32 31 = (nI (u4 y % 32)).toUInt32 &&& Int32.toUInt32 31 := by
      apply UInt32.toBitVec_inj.mp
      rw [UInt32.toBitVec_and, UInt32.toBitVec_and]
      apply BitVec.eq_of_toNat_eq
      rw [BitVec.toNat_and, BitVec.toNat_and]
      show u4 y &&& (2 ^ 5 - 1) = u4 (nI (u4 y % 32)) &&& (2 ^ 5 - 1)
      rw [Nat.and_two_pow_sub_one_eq_mod, Nat.and_two_pow_sub_one_eq_mod, u4_nI (by omega)]
      omega
    unfold fk_ushr
    rw [e1]
  rw [e, ush_n a (Nat.mod_lt _ (by decide))]
theorem neg31 (y : Int32) : u4 (-y) % 32 = (32 - u4 y % 32) % 32 := by
  have h := u4_lt y
  rw [u4_neg]
  omega
theorem rotl32 (x y : Int32) : (x <<< (y &&& 31)) ||| (fk_ushr x (-y)) = ⟨⟨x.toBitVec.rotateLeft (u4 y % 32)⟩⟩ := by
  have h : u4 y % 32 < 32 := Nat.mod_lt _ (by decide)
  apply Int32.toBitVec_inj.mp
  rw [Int32.toBitVec_or, and31, shl_n _ h, ush_g, neg31]
  show _ = x.toBitVec.rotateLeft (u4 y % 32)
  rw [BitVec.rotateLeft_def, Nat.mod_eq_of_lt h]
  by_cases z : u4 y % 32 = 0
  · rw [z]
    show x.toBitVec <<< 0 ||| x.toBitVec >>> 0 = x.toBitVec <<< 0 ||| x.toBitVec >>> 32
    rw [BitVec.shiftLeft_zero, BitVec.ushiftRight_zero, BitVec.or_self, BitVec.ushiftRight_eq_zero (Nat.le_refl _), BitVec.or_zero]
  · rw [Nat.mod_eq_of_lt (show 32 - u4 y % 32 < 32 by omega)]
theorem rotr32 (x y : Int32) : (fk_ushr x y) ||| (x <<< ((-y) &&& 31)) = ⟨⟨x.toBitVec.rotateRight (u4 y % 32)⟩⟩ := by
  have h : u4 y % 32 < 32 := Nat.mod_lt _ (by decide)
  apply Int32.toBitVec_inj.mp
  rw [Int32.toBitVec_or, and31, neg31, shl_n _ (Nat.mod_lt _ (by decide)), ush_g]
  show _ = x.toBitVec.rotateRight (u4 y % 32)
  rw [BitVec.rotateRight_def, Nat.mod_eq_of_lt h]
  by_cases z : u4 y % 32 = 0
  · rw [z]
    show x.toBitVec >>> 0 ||| x.toBitVec <<< 0 = x.toBitVec >>> 0 ||| x.toBitVec <<< 32
    rw [BitVec.shiftLeft_zero, BitVec.ushiftRight_zero, BitVec.or_self, BitVec.shiftLeft_eq_zero (Nat.le_refl _), BitVec.or_zero]
  · rw [Nat.mod_eq_of_lt (show 32 - u4 y % 32 < 32 by omega)]
theorem i64sh (y : Int64) : y.toInt32 &&& (63 : Int32) = nI (u8 y % 64) := by
  rw [and63, u4_of8]
  congr 1
  omega
theorem lneg {s : Nat} (a : Int64) (hs : s < 64) : (fk_lushr a (-(nI s))).toBitVec = a.toBitVec >>> ((64 - s) % 64) ∧ (fk_lshl a (-(nI s))).toBitVec = a.toBitVec <<< ((64 - s) % 64) := by
  have k1 : ∀ k : Fin 64, (-(nI k.val)).toInt64 &&& (63 : Int64) = (nI ((64 - k.val) % 64)).toInt64 &&& (63 : Int64) := by decide +kernel
  have k2 : ∀ k : Fin 64, (-(nI k.val)).toInt64.toUInt64 &&& Int64.toUInt64 63 = (nI ((64 - k.val) % 64)).toInt64.toUInt64 &&& Int64.toUInt64 63 := by decide +kernel
  have e1 : fk_lshl a (-(nI s)) = fk_lshl a (nI ((64 - s) % 64)) := by
    unfold fk_lshl
    rw [k1 ⟨s, hs⟩]
  have e2 : fk_lushr a (-(nI s)) = fk_lushr a (nI ((64 - s) % 64)) := by
    unfold fk_lushr
    rw [k2 ⟨s, hs⟩]
  rw [e1, e2]
  exact ⟨lush_n a (Nat.mod_lt _ (by decide)), fk_lshl_nat (Nat.mod_lt _ (by decide))⟩
theorem rotl64 (x y : Int64) : (fk_lshl x (y.toInt32 &&& (63 : Int32))) ||| (fk_lushr x (-(y.toInt32 &&& (63 : Int32)))) = ⟨⟨x.toBitVec.rotateLeft (u8 y % 64)⟩⟩ := by
  have h : u8 y % 64 < 64 := Nat.mod_lt _ (by decide)
  apply Int64.toBitVec_inj.mp
  rw [Int64.toBitVec_or, i64sh, fk_lshl_nat h, (lneg x h).1]
  show _ = x.toBitVec.rotateLeft (u8 y % 64)
  rw [BitVec.rotateLeft_def, Nat.mod_eq_of_lt h]
  by_cases z : u8 y % 64 = 0
  · rw [z]
    show x.toBitVec <<< 0 ||| x.toBitVec >>> 0 = x.toBitVec <<< 0 ||| x.toBitVec >>> 64
    rw [BitVec.shiftLeft_zero, BitVec.ushiftRight_zero, BitVec.or_self, BitVec.ushiftRight_eq_zero (Nat.le_refl _), BitVec.or_zero]
  · rw [Nat.mod_eq_of_lt (show 64 - u8 y % 64 < 64 by omega)]
theorem rotr64 (x y : Int64) : (fk_lushr x (y.toInt32 &&& (63 : Int32))) ||| (fk_lshl x (-(y.toInt32 &&& (63 : Int32)))) = ⟨⟨x.toBitVec.rotateRight (u8 y % 64)⟩⟩ := by
  have h : u8 y % 64 < 64 := Nat.mod_lt _ (by decide)
  apply Int64.toBitVec_inj.mp
  rw [Int64.toBitVec_or, i64sh, lush_n _ h, (lneg x h).2]
  show _ = x.toBitVec.rotateRight (u8 y % 64)
  rw [BitVec.rotateRight_def, Nat.mod_eq_of_lt h]
  by_cases z : u8 y % 64 = 0
  · rw [z]
    show x.toBitVec >>> 0 ||| x.toBitVec <<< 0 = x.toBitVec >>> 0 ||| x.toBitVec <<< 64
    rw [BitVec.shiftLeft_zero, BitVec.ushiftRight_zero, BitVec.or_self, BitVec.shiftLeft_eq_zero (Nat.le_refl _), BitVec.or_zero]
  · rw [Nat.mod_eq_of_lt (show 64 - u8 y % 64 < 64 by omega)]
/-! unsigned quotients of 64 bits -/
def q64 (x y : Int64) : Int64 := ⟨⟨x.toBitVec / y.toBitVec⟩⟩
theorem u8_q (x y : Int64) : u8 (q64 x y) = u8 x / u8 y := BitVec.toNat_udiv
theorem rem64 {x y : Int64} : x - q64 x y * y = ⟨⟨x.toBitVec % y.toBitVec⟩⟩ := by
  apply u8_inj
  have h0 : u8 (q64 x y * y) = u8 x / u8 y * u8 y := by
    show (q64 x y * y).toBitVec.toNat = _
    rw [Int64.toBitVec_mul, BitVec.toNat_mul]
    show (u8 (q64 x y) * u8 y) % 2 ^ 64 = _
    rw [u8_q]
    exact Nat.mod_eq_of_lt (Nat.lt_of_le_of_lt (Nat.div_mul_le_self _ _) (u8_lt x))
  have h1 := Nat.div_add_mod (u8 x) (u8 y)
  rw [Nat.mul_comm] at h1
  rw [u8_sub (by rw [h0]; exact Nat.div_mul_le_self _ _), h0]
  show _ = (x.toBitVec % y.toBitVec).toNat
  rw [BitVec.toNat_umod]
  show _ = u8 x % u8 y
  omega
theorem quo_nat {A D Q R : Nat} (h1 : A / 2 = Q * D + R) (hR : R < D) : (if A - 2 * Q * D < D then 2 * Q else 2 * Q + 1) = A / D ∧ A - 2 * Q * D < 2 * D ∧ 2 * Q * D ≤ A := by
  have e : 2 * Q * D = 2 * (Q * D) := Nat.mul_assoc _ _ _
  have h2 : A = 2 * (Q * D) + (2 * R + A % 2) := by omega
  rw [e]
  generalize hP : Q * D = P at *
  refine ⟨?_, by omega, by omega⟩
  split
  next z =>
    symm
    refine Nat.div_eq_of_lt_le ?_ ?_
    · rw [e]; omega
    · rw [Nat.add_mul, e]; omega
  next z =>
    symm
    refine Nat.div_eq_of_lt_le ?_ ?_
    · rw [Nat.add_mul, e]; omega
    · rw [Nat.add_mul, Nat.add_mul, e]; omega
section DIVX
variable {d : Nat} {σ : fkS}
theorem bel {x y : Int64} {P : Int32 → fkS → Prop} (h : P (b2i (ultL x y)) σ) : Di d 128 [.long x, .long y] σ P := (c_below x y).mono fun x σ1 hx => by
  obtain ⟨r, rfl, e, rfl, rfl⟩ := Qi_s hx
  exact ⟨rfl, h⟩
theorem lneg_hi {a : Int64} : a < 0 ↔ 2 ^ 63 ≤ u8 a := by
  rw [l_lt, hi_int a]
  have : (0 : Int64).toInt = 0 := rfl
  rw [this]
  show (if u8 a < 2 ^ 63 then (u8 a : Int) else (u8 a : Int) - 2 ^ 64) < 0 ↔ _
  have h := u8_lt a
  split <;> omega
theorem lpos_hi {a : Int64} : 0 < a ↔ 0 < u8 a ∧ u8 a < 2 ^ 63 := by
  rw [l_lt, hi_int a]
  have : (0 : Int64).toInt = 0 := rfl
  rw [this]
  show 0 < (if u8 a < 2 ^ 63 then (u8 a : Int) else (u8 a : Int) - 2 ^ 64) ↔ _
  have h := u8_lt a
  split <;> omega
theorem c_quot {x y : Int64} (hy : y ≠ 0) {P : Int64 → fkS → Prop} (h : P (q64 x y) σ) : Dj (d + 1) 136 [.long x, .long y] σ P := by
  have hx := u8_lt x
  have hyl := u8_lt y
  have hy0 : u8 y ≠ 0 := fun z => hy (u8_inj z)
  have fin : ∀ {v : Int64} {σ' : fkS}, u8 v = u8 x / u8 y → σ' = σ → P v σ' := fun e es => by
    rw [es, u8_inj (e.trans (u8_q x y).symm)]
    exact h
  refine S_Machine_quotient (Q := Qj _) ⟨fun z => ⟨fun w => ⟨hy, ?_⟩, fun w => ⟨hy, rfl, ?_⟩⟩, fun z => ⟨fun w => ?_, fun w => ?_⟩⟩
  · rw [lg_gt, lpos_hi] at z
    rw [lg_lt, lneg_hi] at w
    have e1 : fk_lushr x (1 : Int32) / y = lN (u8 x / 2 / u8 y) := by
      have e : fk_lushr x (1 : Int32) = lN (u8 x / 2) := u8_inj (by rw [show (1 : Int32) = nI 1 from rfl, u8_ush _ (by decide), u8_lN (by omega)])
      rw [e, ← u8_self y, pk_lDiv (by omega) (by omega) (by omega), u8_self]
    have hQ : u8 x / 2 / u8 y ≤ u8 x / 2 := Nat.div_le_self _ _
    have e2 : u8 (fk_lshl (fk_lushr x (1 : Int32) / y) (1 : Int32)) = 2 * (u8 x / 2 / u8 y) := by
      show (fk_lshl (fk_lushr x (1 : Int32) / y) (nI 1)).toBitVec.toNat = _
      rw [fk_lshl_nat (by decide), e1, BitVec.toNat_shiftLeft, Nat.shiftLeft_eq]
      show u8 (lN (u8 x / 2 / u8 y)) * 2 ^ 1 % 2 ^ 64 = _
      rw [u8_lN (by omega)]
      omega
    generalize fk_lshl (fk_lushr x (1 : Int32) / y) (1 : Int32) = q at e2 ⊢
    have hR := Nat.mod_lt (u8 x / 2) z.1
    have hD : u8 x / 2 = (u8 x / 2 / u8 y) * u8 y + u8 x / 2 % u8 y := by
      have := Nat.div_add_mod (u8 x / 2) (u8 y)
      rw [Nat.mul_comm] at this
      exact this.symm
    obtain ⟨k1, k2, k3⟩ := quo_nat hD hR
    have e3 : u8 (q * y) = 2 * (u8 x / 2 / u8 y) * u8 y := by
      show (q * y).toBitVec.toNat = _
      rw [Int64.toBitVec_mul, BitVec.toNat_mul]
      show (u8 q * u8 y) % 2 ^ 64 = _
      rw [e2]
      exact Nat.mod_eq_of_lt (by omega)
    have e4 : u8 (x - q * y) = u8 x - 2 * (u8 x / 2 / u8 y) * u8 y := by rw [u8_sub (by rw [e3]; exact k3), e3]
    refine bel ?_
    have hu : ultL (x - q * y) y = decide (u8 x - 2 * (u8 x / 2 / u8 y) * u8 y < u8 y) := by
      unfold ultL
      show decide (u8 (x - q * y) < u8 y) = _
      rw [e4]
    rw [hu]
    refine ⟨fun v => ⟨rfl, fin ?_ rfl⟩, fun v => ⟨rfl, fin ?_ rfl⟩⟩
    · have v := decide_eq_false_iff_not.mp (b2i_0.mp v)
      rw [if_neg v] at k1
      rw [u8_add, e2, ← k1, show u8 (1 : Int64) = 1 from rfl]
      omega
    · have v : decide (u8 x - 2 * (u8 x / 2 / u8 y) * u8 y < u8 y) = true := by
        cases hh : decide (u8 x - 2 * (u8 x / 2 / u8 y) * u8 y < u8 y)
        · rw [hh] at v
          exact absurd rfl v
        · rfl
      rw [if_pos (of_decide_eq_true v)] at k1
      rw [e2, ← k1]
  · rw [lg_gt, lpos_hi] at z
    rw [lg_lt, lneg_hi] at w
    refine fin ?_ rfl
    rw [← u8_self x, ← u8_self y, pk_lDiv (by omega) (by omega) (by omega), u8_self, u8_self, u8_lN (Nat.lt_of_le_of_lt (Nat.div_le_self _ _) hx)]
  · exact absurd (lg_eq.mp w) hy
  · rw [lg_gt, lpos_hi] at z
    refine bel ?_
    have hd : u8 x / u8 y = if u8 x < u8 y then 0 else 1 := by
      split
      next v => exact Nat.div_eq_of_lt v
      next v => exact Nat.div_eq_of_lt_le (by omega) (by omega)
    refine ⟨fun v => ⟨rfl, fin ?_ rfl⟩, fun v => ⟨rfl, fin ?_ rfl⟩⟩
    · have v : ¬ u8 x < u8 y := decide_eq_false_iff_not.mp (b2i_0.mp v)
      rw [hd, if_neg v]
      rfl
    · have v : u8 x < u8 y := by
        cases hh : ultL x y
        · rw [hh] at v
          exact absurd rfl v
        · exact of_decide_eq_true hh
      rw [hd, if_pos v]
      rfl
end DIVX
