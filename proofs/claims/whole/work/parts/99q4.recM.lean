/-! NUMBERS, the reference: arithmetic -/
theorem t32_inj {a : Int64} {x : Int32} (h : u8 a % 2 ^ 32 = u4 x) : a.toInt32 = x := u4_inj (by rw [u4_of8]; exact h)
theorem t32_and (a b : Int64) : (a &&& b).toInt32 = a.toInt32 &&& b.toInt32 := t32_inj (by rw [u8_and, u4_and, u4_of8, u4_of8, Nat.and_mod_two_pow])
theorem t32_or (a b : Int64) : (a ||| b).toInt32 = a.toInt32 ||| b.toInt32 := t32_inj (by rw [u8_or, u4_or, u4_of8, u4_of8, Nat.or_mod_two_pow])
theorem u8_xor (a b : Int64) : u8 (a ^^^ b) = u8 a ^^^ u8 b := BitVec.toNat_xor a.toBitVec b.toBitVec
theorem u4_xor (a b : Int32) : u4 (a ^^^ b) = u4 a ^^^ u4 b := BitVec.toNat_xor a.toBitVec b.toBitVec
theorem t32_xor (a b : Int64) : (a ^^^ b).toInt32 = a.toInt32 ^^^ b.toInt32 := t32_inj (by rw [u8_xor, u4_xor, u4_of8, u4_of8, Nat.xor_mod_two_pow])
/-- so far as a shift goes -/
theorem sh32 (b : Int64) : (b &&& ((32 : Int32) - (1 : Int32)).toInt64).toInt32 = nI (u4 b.toInt32 % 32) := by
  rw [t32_and]
  have : (((32 : Int32) - (1 : Int32)).toInt64).toInt32 = 31 := rfl
  rw [this, and31]
theorem sh64 (b : Int64) : (b &&& ((64 : Int32) - (1 : Int32)).toInt64).toInt32 = nI (u8 b % 64) := by
  rw [t32_and]
  have : (((64 : Int32) - (1 : Int32)).toInt64).toInt32 = 63 := rfl
  rw [this, i64sh]
theorem shl_32 {s : Nat} (a : Int64) (hs : s < 32) : (fk_lshl a (nI s)).toInt32 = ⟨⟨a.toInt32.toBitVec <<< s⟩⟩ := by
  refine t32_inj ?_
  have e : u4 (⟨⟨a.toInt32.toBitVec <<< s⟩⟩ : Int32) = (a.toInt32.toBitVec <<< s).toNat := rfl
  rw [u8_shl a (by omega), e, BitVec.toNat_shiftLeft, Nat.shiftLeft_eq]
  have e2 : a.toInt32.toBitVec.toNat = u8 a % 2 ^ 32 := u4_of8 a
  rw [e2]
  have h1 : u8 a * 2 ^ s % 2 ^ 64 % 2 ^ 32 = u8 a * 2 ^ s % 2 ^ 32 := Nat.mod_mod_of_dvd _ (by decide)
  rw [h1, Nat.mod_mul_mod]
theorem lushr_32 {s : Nat} (a : Int64) (hs : s < 64) : (fk_lushr (lN (lo32 a)) (nI s)).toInt32 = ⟨⟨a.toInt32.toBitVec >>> s⟩⟩ := by
  refine t32_inj ?_
  have h3 : lo32 a < 2 ^ 32 := Nat.mod_lt _ (by decide)
  have e : u4 (⟨⟨a.toInt32.toBitVec >>> s⟩⟩ : Int32) = (a.toInt32.toBitVec >>> s).toNat := rfl
  have e2 : a.toInt32.toBitVec.toNat = lo32 a := u4_of8 a
  rw [u8_ush _ hs, u8_lN (by omega), e, BitVec.toNat_ushiftRight, e2, Nat.shiftRight_eq_div_pow]
  exact Nat.mod_eq_of_lt (Nat.lt_of_le_of_lt (Nat.div_le_self _ _) h3)
theorem shr_32 {s : Nat} {a : Int64} (ha : c32 a) (hs : s < 32) : (fk_lshr a (nI s)).toInt32 = ⟨⟨a.toInt32.toBitVec.sshiftRight s⟩⟩ := by
  apply Int32.toBitVec_inj.mp
  rw [Int64.toBitVec_toInt32, fk_lshr_nat (by omega)]
  show _ = a.toInt32.toBitVec.sshiftRight s
  have e : a.toBitVec = a.toInt32.toBitVec.signExtend 64 := congrArg Int64.toBitVec ha
  rw [e]
  generalize a.toInt32.toBitVec = x
  apply BitVec.eq_of_getLsbD_eq
  intro i hi
  rw [BitVec.signExtend_eq_setWidth_of_le _ (by decide), BitVec.getLsbD_setWidth, BitVec.getLsbD_sshiftRight, BitVec.getLsbD_sshiftRight, BitVec.getLsbD_signExtend, BitVec.msb_signExtend]
  simp only [hi, decide_true, Bool.true_and]
  rw [decide_eq_false (show ¬ 64 ≤ i by omega), decide_eq_false (show ¬ 32 ≤ i by omega), if_pos (show s + i < 64 by omega), decide_eq_true (show s + i < 64 by omega)]
  rfl
theorem m1 : (Int64.ofNat 18446744073709551615) = -1 := rfl
theorem c32_0 {b : Int64} (h : c32 b) : b = 0 ↔ b.toInt32 = 0 := ⟨fun z => by rw [z]; rfl, fun z => by rw [h, z]; rfl⟩
theorem c32_m1 {b : Int64} (h : c32 b) : b = -1 ↔ b.toInt32 = -1 := ⟨fun z => by rw [z]; rfl, fun z => by rw [h, z]; rfl⟩
theorem c32_mn {b : Int64} (h : c32 b) : b = (Int64.ofNat 18446744071562067968) ↔ b.toInt32 = Int32.ofNat 2147483648 := ⟨fun z => by rw [z]; rfl, fun z => by rw [h, z]; rfl⟩
theorem div_32 {a b : Int64} (ha : c32 a) (hb : c32 b) (h : ¬ (a.toInt32 = Int32.ofNat 2147483648 ∧ b.toInt32 = -1)) : (a / b).toInt32 = a.toInt32 / b.toInt32 := by
  have e : a / b = (a.toInt32 / b.toInt32).toInt64 := by
    conv => lhs; rw [ha, hb]
    by_cases z : b.toInt32 = -1
    · exact (Int32.toInt64_div_of_ne_left _ _ fun y => h ⟨y, z⟩).symm
    · exact (Int32.toInt64_div_of_ne_right _ _ z).symm
  rw [e, Int32.toInt32_toInt64]
section RECM
variable {d c : Nat} {σ : fkS} {a b x y : Int64} {P : Int64 → fkS → Prop}
theorem m_traps {k : Int32} {Q : fkS → Prop} (h : σ.1 103 69 = 0) (hQ : Q (sI σ 103 69 k)) : Cv d 299 [.ref 103, .int k] σ Q := S_M_traps ⟨fun z => absurd h z, fun _ => hQ⟩
theorem m_divided (hc : 3 ≤ c ∧ c ≤ 6) (wide : Bool) (h69 : σ.1 103 69 = 0) (hy : b ≠ 0 → y ≠ 0) (h0 : b = 0 → P 0 (sI σ 103 69 (nI 2))) (hov : c = 3 → b = -1 → a = (if wide = true then (Int64.ofNat 9223372036854775808) else (Int64.ofNat 18446744071562067968)) → P 0 (sI σ 103 69 (nI 3)))
    (hok : b ≠ 0 → ¬ (c = 3 ∧ b = -1 ∧ a = (if wide = true then (Int64.ofNat 9223372036854775808) else (Int64.ofNat 18446744071562067968))) → P (if c = 3 then a / b else if c = 4 then ⟨⟨x.toBitVec / y.toBitVec⟩⟩ else if c = 5 then (if b = -1 then 0 else a - a / b * b) else ⟨⟨x.toBitVec % y.toBitVec⟩⟩) σ) : Cj (d + 2) 318 [.ref 103, .int (nI c), .long a, .long b, .long x, .long y, .int (b2i wide)] σ P := by
  have en : ∀ {k : Nat}, k < 10 → (nI c = nI k ↔ c = k) := fun hk => nI_eq (by omega) (by omega)
  have cont : b ≠ 0 → ¬ (c = 3 ∧ b = -1 ∧ a = (if wide = true then (Int64.ofNat 9223372036854775808) else (Int64.ofNat 18446744071562067968))) → Wq 318 (d + 2) 54 [none, some (.int (nI c)), some (.long a), none, some (.long b), none, some (.long x), none, some (.long y), none, none] [] σ (Qj P) := fun hb hn => by
    have hok := hok hb hn
    refine S_M_divided_54 ⟨fun z3 => ?_, fun z3 => ⟨hb, ?_⟩⟩
    · have z3 : ¬ c = 3 := fun y => z3 (by rw [y]; rfl)
      rw [if_neg z3] at hok
      refine ⟨fun z5 => ⟨fun z6 => ?_, fun z6 => ?_⟩, fun z5 => ?_⟩
      · have z5 : ¬ c = 5 := fun y => z5 (by rw [y]; rfl)
        have z6 : ¬ c = 6 := fun y => z6 (by rw [y]; rfl)
        rw [if_pos (by omega)] at hok
        exact m_unsigned (hy hb) false hok
      · have z6 : c = 6 := (en (k := 6) (by decide)).mp z6
        rw [if_neg (by omega), if_neg (by omega)] at hok
        exact m_unsigned (hy hb) true hok
      · have z5 : c = 5 := (en (k := 5) (by decide)).mp z5
        rw [if_neg (by omega), if_pos z5] at hok
        rw [m1, lg_eq]
        refine ⟨fun w => ⟨hb, ?_⟩, fun w => ?_⟩
        · rw [if_neg w] at hok
          exact hok
        · rw [if_pos w] at hok
          exact hok
    · have z3 : c = 3 := (en (k := 3) (by decide)).mp z3
      rw [if_pos z3] at hok
      exact hok
  refine S_M_divided ?_
  rw [lg_eq, m1, lg_eq, lg_eq, lg_eq]
  refine ⟨fun hb => ⟨fun z3 => cont hb fun w => z3 (by rw [w.1]; rfl), fun z3 => ⟨fun w => cont hb fun u => w u.2.1, fun w => ⟨fun hw => ?_, fun hw => ?_⟩⟩⟩, fun hb => m_traps h69 (h0 hb)⟩
  · have hw : wide = false := b2i_0.mp hw
    rw [hw] at hov cont
    exact ⟨fun u => cont hb fun q => u q.2.2, fun u => m_traps h69 (hov ((en (k := 3) (by decide)).mp z3) w u)⟩
  · have hw : wide = true := by
      cases wide
      · exact absurd rfl hw
      · rfl
    rw [hw] at hov cont
    exact ⟨fun u => cont hb fun q => u q.2.2, fun u => m_traps h69 (hov ((en (k := 3) (by decide)).mp z3) w u)⟩
end RECM
