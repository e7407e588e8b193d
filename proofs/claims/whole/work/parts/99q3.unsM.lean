/-! NUMBERS, the reference: quotients without sign, bit by bit -/
theorem u8_sub2 (a b : Int64) : u8 (a - b) = (2 ^ 64 - u8 b + u8 a) % 2 ^ 64 := BitVec.toNat_sub a.toBitVec b.toBitVec
theorem u8_b2l (c : Bool) : u8 (b2l c) = if c then 1 else 0 := by cases c <;> rfl
theorem u8_shl {s : Nat} (a : Int64) (hs : s < 64) : u8 (fk_lshl a (nI s)) = u8 a * 2 ^ s % 2 ^ 64 := by
  have e1 : u8 (fk_lshl a (nI s)) = (a.toBitVec <<< s).toNat := congrArg BitVec.toNat (fk_lshl_nat hs)
  rw [e1, BitVec.toNat_shiftLeft, Nat.shiftLeft_eq]
  rfl
/-- one more bit of the rest -/
theorem uns_r (v rv : Int64) {k : Nat} (hk : k < 64) : u8 ((fk_lshl rv (1 : Int32)) ||| ((fk_lshr v (nI k)) &&& (1 : Int64))) = (2 * u8 rv + (if (u8 v).testBit k then 1 else 0)) % 2 ^ 64 := by
  have hb := u8_lt rv
  rw [bit1 v hk, u8_or, u8_b2l, show (1 : Int32) = nI 1 from rfl, u8_shl rv (by decide)]
  have e : u8 rv * 2 ^ 1 % 2 ^ 64 = 2 ^ 1 * (u8 rv % 2 ^ 63) := by omega
  rw [e, ← Nat.two_pow_add_eq_or_of_lt (by split <;> decide)]
  split <;> omega
theorem uns_q {qv : Int64} {Q k : Nat} (hk : k < 64) (h : u8 qv = Q * 2 ^ (k + 1)) (hb : Q * 2 ^ (k + 1) + 2 ^ k < 2 ^ 64) : u8 (qv ||| (fk_lshl (1 : Int64) (nI k))) = (2 * Q + 1) * 2 ^ k := by
  rw [u8_or, h, u8_shl _ hk]
  have e1 : u8 (1 : Int64) = 1 := rfl
  have e2 : 2 ^ k % 2 ^ 64 = 2 ^ k := Nat.mod_eq_of_lt (by omega)
  rw [e1, Nat.one_mul, e2, Nat.mul_comm Q, ← Nat.two_pow_add_eq_or_of_lt (Nat.pow_lt_pow_right (by decide) (Nat.lt_succ_self k))]
  rw [Nat.pow_succ, Nat.add_mul, Nat.one_mul]
  congr 1
  simp only [Nat.mul_comm, Nat.mul_left_comm]
  rw [Nat.mul_assoc]
theorem div_bit {A k : Nat} : A / 2 ^ k = 2 * (A / 2 ^ (k + 1)) + (if A.testBit k then 1 else 0) := by
  have e1 : A / 2 ^ (k + 1) = A / 2 ^ k / 2 := by rw [Nat.pow_succ, Nat.div_div_eq_div_mul]
  have e2 : A.testBit k = decide (A / 2 ^ k % 2 = 1) := by
    rw [Nat.testBit_eq_decide_div_mod_eq]
  rw [e1, e2]
  by_cases z : A / 2 ^ k % 2 = 1
  · rw [decide_eq_true z, if_pos rfl]
    omega
  · rw [decide_eq_false z, if_neg (by decide)]
    omega
theorem div_two {M D B : Nat} (hD : 0 < D) (hB : B ≤ 1) : (D ≤ 2 * (M % D) + B → (2 * M + B) / D = 2 * (M / D) + 1 ∧ (2 * M + B) % D = 2 * (M % D) + B - D) ∧ (¬ D ≤ 2 * (M % D) + B → (2 * M + B) / D = 2 * (M / D) ∧ (2 * M + B) % D = 2 * (M % D) + B) := by
  have h1 := Nat.div_add_mod M D
  have h2 := Nat.mod_lt M hD
  generalize hQ : M / D = Q at *
  generalize hR : M % D = R at *
  have e : 2 * M + B = D * (2 * Q) + (2 * R + B) := by
    have : D * (2 * Q) = 2 * (D * Q) := by rw [Nat.mul_left_comm]
    omega
  constructor
  · intro z
    have e2 : 2 * M + B = (2 * R + B - D) + D * (2 * Q + 1) := by
      rw [Nat.mul_add, Nat.mul_one]
      omega
    have hlt : 2 * R + B - D < D := by omega
    rw [e2, Nat.add_mul_div_left _ _ hD, Nat.add_mul_mod_self_left, Nat.div_eq_of_lt hlt, Nat.mod_eq_of_lt hlt]
    exact ⟨Nat.zero_add _, rfl⟩
  · intro z
    have hlt : 2 * R + B < D := by omega
    rw [e, Nat.add_comm (D * (2 * Q)), Nat.add_mul_div_left _ _ hD, Nat.add_mul_mod_self_left, Nat.div_eq_of_lt hlt, Nat.mod_eq_of_lt hlt]
    exact ⟨Nat.zero_add _, rfl⟩
section UNSM
variable {d : Nat} {σ : fkS} {a b : Int64} {P : Int64 → fkS → Prop}
theorem w_uns10 (hb : b ≠ 0) (rest : Bool) (hP : P (if rest = true then ⟨⟨a.toBitVec % b.toBitVec⟩⟩ else ⟨⟨a.toBitVec / b.toBitVec⟩⟩) σ) :
    ∀ (k : Nat) (qv rv : Int64), k ≤ 64 → u8 qv = (u8 a / 2 ^ k / u8 b) * 2 ^ k → u8 rv = (u8 a / 2 ^ k) % u8 b → Wq 319 (d + 1) 10 [some (.long a), none, some (.long b), none, some (.int (b2i rest)), some (.long qv), none, some (.long rv), none, some (.int (nI k - 1)), none] [] σ (Qj P)
  | 0, qv, rv, _, hq, hr => by
    refine S_M_unsigned_10 ⟨fun _ => ⟨fun z => ?_, fun z => ?_⟩, fun z => absurd (by decide) z⟩
    · have hz : rest = false := b2i_0.mp z
      rw [hz] at hP
      have : qv = ⟨⟨a.toBitVec / b.toBitVec⟩⟩ := u8_inj (by
        rw [hq, Nat.pow_zero, Nat.div_one, Nat.mul_one]
        exact (BitVec.toNat_udiv).symm)
      rw [this]
      exact hP
    · have hz : rest = true := by
        cases rest
        · exact absurd rfl z
        · rfl
      rw [hz] at hP
      have : rv = ⟨⟨a.toBitVec % b.toBitVec⟩⟩ := u8_inj (by
        rw [hr, Nat.pow_zero, Nat.div_one]
        exact (BitVec.toNat_umod).symm)
      rw [this]
      exact hP
  | k + 1, qv, rv, hk, hq, hr => by
    have hD : 0 < u8 b := by
      refine Nat.pos_of_ne_zero fun z => hb (u8_inj ?_)
      rw [z]
      rfl
    have hD64 := u8_lt b
    have hA64 := u8_lt a
    have hB : (if (u8 a).testBit k then 1 else 0) ≤ 1 := by split <;> decide
    obtain ⟨s1, s2⟩ := div_two (M := u8 a / 2 ^ (k + 1)) hD hB
    rw [← div_bit] at s1 s2
    have hX := uns_r a rv (k := k) (by omega)
    rw [hr] at hX
    have hRlt := Nat.mod_lt (u8 a / 2 ^ (k + 1)) hD
    generalize hBB : (if (u8 a).testBit k then 1 else 0) = B at s1 s2 hX hB
    generalize hR : u8 a / 2 ^ (k + 1) % u8 b = R at s1 s2 hX hRlt hr
    generalize hQQ : u8 a / 2 ^ (k + 1) / u8 b = Q at s1 s2 hq
    have em : nI k + (-1 : Int32) = nI k - 1 := (Int32.sub_eq_add_neg ..).symm
    -- what is taken away
    have take : u8 b ≤ 2 * R + B → ∀ X : Int64, u8 X = (2 * R + B) % 2 ^ 64 → Wq 319 (d + 1) 10 [some (.long a), none, some (.long b), none, some (.int (b2i rest)), some (.long (qv ||| (fk_lshl (1 : Int64) (nI k)))), none, some (.long (X - b)), none, some (.int (nI k + (-1 : Int32))), none] [] σ (Qj P) := fun hle X hXX => by
      obtain ⟨t1, t2⟩ := s1 hle
      have hle2 : u8 a / 2 ^ k / u8 b * 2 ^ k ≤ u8 a := Nat.le_trans (Nat.mul_le_mul_right _ (Nat.div_le_self _ _)) (Nat.div_mul_le_self _ _)
      rw [t1] at hle2
      have e2 : (2 * Q + 1) * 2 ^ k = Q * 2 ^ (k + 1) + 2 ^ k := by
        rw [Nat.pow_succ, Nat.add_mul, Nat.one_mul]
        congr 1
        rw [Nat.mul_comm (2 ^ k) 2, ← Nat.mul_assoc, Nat.mul_comm Q 2]
      rw [em]
      refine w_uns10 hb rest hP k _ _ (by omega) ?_ ?_
      · rw [uns_q (Q := Q) (by omega) hq (by omega), t1]
      · rw [t2, u8_sub2, hXX]
        omega
    refine S_M_unsigned_10 ⟨fun z => absurd z (by rw [nI_pred]; exact nI_pos (by omega)), fun _ => ?_⟩
    rw [nI_pred]
    refine ⟨fun z => ?_, fun z => ?_⟩
    · have hlt : R < 2 ^ 63 := by
        rw [lg_ge] at z
        have : ¬ rv < 0 := fun y => by
          rw [l_lt] at y
          rw [l_le] at z
          omega
        rw [lneg_hi, hr] at this
        omega
      have hX2 : (2 * R + B) % 2 ^ 64 = 2 * R + B := Nat.mod_eq_of_lt (by omega)
      have hX3 := hX
      rw [hX2] at hX3
      refine S_M_unsigned_27 ⟨fun y => absurd rfl y, fun _ => m_below ?_⟩
      generalize (fk_lshl rv (1 : Int32)) ||| ((fk_lshr a (nI k)) &&& (1 : Int64)) = X at hX hX3 ⊢
      refine ⟨fun y => ?_, fun y => ?_⟩
      · have : ultL b X = true := by
          cases hh : ultL b X
          · rw [hh] at y
            exact absurd rfl y
          · rfl
        have : u8 b < u8 X := of_decide_eq_true this
        exact take (by omega) X hX
      · have hnb : ¬ u8 b < u8 X := of_decide_eq_false (b2i_0.mp y)
        refine ⟨fun w => ?_, fun w => ?_⟩
        · have hne : u8 X ≠ u8 b := fun u => w (lg_eq.mpr (u8_inj u))
          obtain ⟨t1, t2⟩ := s2 (by omega)
          rw [em]
          refine w_uns10 hb rest hP k _ _ (by omega) ?_ ?_
          · rw [hq, t1, Nat.pow_succ, Nat.mul_comm (2 ^ k) 2, ← Nat.mul_assoc, Nat.mul_comm Q 2]
          · rw [hX3, t2]
        · have he := congrArg u8 (lg_eq.mp w)
          exact take (by omega) X hX
    · have hge : 2 ^ 63 ≤ R := by
        rw [lg_ge] at z
        have : rv < 0 := by
          rw [l_lt]
          rw [l_le] at z
          omega
        rw [lneg_hi, hr] at this
        exact this
      exact S_M_unsigned_27 ⟨fun _ => take (by omega) _ hX, fun y => absurd y (by decide)⟩
theorem m_unsigned (hb : b ≠ 0) (rest : Bool) (hP : P (if rest = true then ⟨⟨a.toBitVec % b.toBitVec⟩⟩ else ⟨⟨a.toBitVec / b.toBitVec⟩⟩) σ) : Cj (d + 1) 319 [.long a, .long b, .int (b2i rest)] σ P := by
  have hA := u8_lt a
  have e : u8 a / 2 ^ 64 = 0 := Nat.div_eq_of_lt hA
  refine S_M_unsigned ?_
  exact w_uns10 hb rest hP 64 0 0 (Nat.le_refl _) (by rw [e, Nat.zero_div, Nat.zero_mul]; rfl) (by rw [e, Nat.zero_mod]; rfl)
end UNSM
