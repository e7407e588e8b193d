/-! NUMBERS: leading and trailing zeros, the class -/
theorem smear {x y : Nat} {n : Nat} (h : ∀ i, y.testBit i = true ↔ ∃ j, i ≤ j ∧ j < i + n ∧ x.testBit j = true) : ∀ i, (y ||| y / 2 ^ n).testBit i = true ↔ ∃ j, i ≤ j ∧ j < i + (n + n) ∧ x.testBit j = true := fun i => by
  rw [Nat.testBit_or, Nat.testBit_div_two_pow, Bool.or_eq_true, h, h]
  refine ⟨fun z => ?_, fun ⟨j, h1, h2, h3⟩ => ?_⟩
  · rcases z with ⟨j, h1, h2, h3⟩ | ⟨j, h1, h2, h3⟩
    · exact ⟨j, h1, by omega, h3⟩
    · exact ⟨j, by omega, by omega, h3⟩
  · by_cases z : j < i + n
    · exact .inl ⟨j, h1, z, h3⟩
    · exact .inr ⟨j, by omega, by omega, h3⟩
theorem smear0 (x : Nat) : ∀ i, x.testBit i = true ↔ ∃ j, i ≤ j ∧ j < i + 1 ∧ x.testBit j = true := fun i =>
  ⟨fun z => ⟨i, Nat.le_refl _, Nat.lt_succ_self _, z⟩, fun ⟨j, h1, h2, h3⟩ => by
    have : j = i := by omega
    rw [← this]
    exact h3⟩
theorem pc_full {y : Nat} : ∀ (w : Nat), (∀ i, i < w → y.testBit i = true) → pcN w y = w
  | 0, _ => rfl
  | w + 1, h => by
    have e : pcN (w + 1) y = pcN w y + (if y.testBit w then 1 else 0) := rfl
    rw [e, pc_full w (fun i hi => h i (by omega)), h w (Nat.lt_succ_self _)]
    rfl
theorem pc_smear {x y : Nat} : ∀ (w : Nat), (∀ i, i < w → (y.testBit i = true ↔ ∃ j, i ≤ j ∧ j < w ∧ x.testBit j = true)) → pcN w y + czN w x = w
  | 0, _ => rfl
  | w + 1, h => by
    have e2 : czN (w + 1) x = if x.testBit w then 0 else czN w x + 1 := rfl
    cases hx : x.testBit w
    · have hy : y.testBit w = false := by
        cases hh : y.testBit w
        · rfl
        · obtain ⟨j, h1, h2, h3⟩ := (h w (Nat.lt_succ_self _)).mp hh
          have : j = w := by omega
          rw [this, hx] at h3
          cases h3
      have e : pcN (w + 1) y = pcN w y + (if y.testBit w then 1 else 0) := rfl
      have ih := pc_smear (x := x) (y := y) w fun i hi => by
        rw [h i (by omega)]
        refine ⟨fun ⟨j, h1, h2, h3⟩ => ?_, fun ⟨j, h1, h2, h3⟩ => ⟨j, h1, by omega, h3⟩⟩
        by_cases z : j = w
        · rw [z, hx] at h3
          cases h3
        · exact ⟨j, h1, by omega, h3⟩
      rw [e, hy, e2, hx]
      simp only [Bool.false_eq_true, if_false]
      omega
    · rw [e2, hx, pc_full (w + 1) fun i hi => (h i hi).mpr ⟨w, by omega, Nat.lt_succ_self _, hx⟩]
      simp
theorem bits_in {x w i : Nat} (h : x < 2 ^ w) (hi : x.testBit i = true) : i < w := by
  rcases Nat.lt_or_ge i w with z | z
  · exact z
  · have := Nat.testBit_lt_two_pow (Nat.lt_of_lt_of_le h (Nat.pow_le_pow_right (by decide) z))
    rw [this] at hi
    cases hi
/-- trailing zeros -/
theorem odd_of : ∀ (f x : Nat), 0 < x → x ≤ f → ∃ k q, x = 2 ^ k * (2 * q + 1)
  | 0, x, h, h2 => by omega
  | f + 1, x, h, h2 => by
    by_cases z : x % 2 = 0
    · obtain ⟨k, q, e⟩ := odd_of f (x / 2) (by omega) (by omega)
      refine ⟨k + 1, q, ?_⟩
      rw [Nat.pow_succ, Nat.mul_assoc, Nat.mul_comm 2, ← Nat.mul_assoc, ← e]
      omega
    · exact ⟨0, x / 2, by omega⟩
theorem and_pow {k A B : Nat} : (2 ^ k * A) &&& (2 ^ k * B) = 2 ^ k * (A &&& B) := by
  have h1 : ((2 ^ k * A) &&& (2 ^ k * B)) % 2 ^ k = ((2 ^ k * A) % 2 ^ k) &&& ((2 ^ k * B) % 2 ^ k) := Nat.and_mod_two_pow
  have h2 : ((2 ^ k * A) &&& (2 ^ k * B)) / 2 ^ k = ((2 ^ k * A) / 2 ^ k) &&& ((2 ^ k * B) / 2 ^ k) := Nat.and_div_two_pow
  rw [Nat.mul_mod_right, Nat.mul_mod_right] at h1
  rw [Nat.mul_div_cancel_left _ (Nat.two_pow_pos k), Nat.mul_div_cancel_left _ (Nat.two_pow_pos k)] at h2
  have := Nat.div_add_mod ((2 ^ k * A) &&& (2 ^ k * B)) (2 ^ k)
  rw [h1, h2] at this
  exact this.symm
theorem and_odd {q r : Nat} (h : q &&& r = 0) : (2 * q + 1) &&& (2 * r + 1) = 1 := by
  have h1 : ((2 * q + 1) &&& (2 * r + 1)) % 2 ^ 1 = ((2 * q + 1) % 2 ^ 1) &&& ((2 * r + 1) % 2 ^ 1) := Nat.and_mod_two_pow
  have h2 : ((2 * q + 1) &&& (2 * r + 1)) / 2 ^ 1 = ((2 * q + 1) / 2 ^ 1) &&& ((2 * r + 1) / 2 ^ 1) := Nat.and_div_two_pow
  have e1 : ∀ a, (2 * a + 1) % 2 ^ 1 = 1 := fun a => by omega
  have e2 : ∀ a, (2 * a + 1) / 2 ^ 1 = a := fun a => by omega
  rw [e1, e1] at h1
  rw [e2, e2, h] at h2
  have h1 : ((2 * q + 1) &&& (2 * r + 1)) % 2 ^ 1 = 1 := h1
  omega
theorem low1 {w x k q : Nat} (hx : x = 2 ^ k * (2 * q + 1)) (hl : x < 2 ^ w) : k < w ∧ x &&& (2 ^ w - x) = 2 ^ k := by
  have hk : k < w := by
    rcases Nat.lt_or_ge k w with z | z
    · exact z
    · have h1 := Nat.pow_le_pow_right (n := 2) (by decide) z
      have h2 : 2 ^ k * 1 ≤ 2 ^ k * (2 * q + 1) := Nat.mul_le_mul_left _ (by omega)
      omega
  refine ⟨hk, ?_⟩
  obtain ⟨v, rfl⟩ : ∃ v, w = k + (v + 1) := ⟨w - k - 1, by omega⟩
  have e : (2 : Nat) ^ (k + (v + 1)) = 2 ^ k * (2 * 2 ^ v) := by rw [Nat.pow_add, Nat.pow_succ, Nat.mul_comm (2 ^ v)]
  have hq : 2 * q + 1 < 2 * 2 ^ v := by
    rw [hx, e] at hl
    exact Nat.lt_of_mul_lt_mul_left hl
  have e2 : 2 ^ (k + (v + 1)) - x = 2 ^ k * (2 * (2 ^ v - (q + 1)) + 1) := by
    rw [hx, e, ← Nat.mul_sub]
    congr 1
    omega
  rw [e2, hx, and_pow, and_odd, Nat.mul_one]
  apply Nat.eq_of_testBit_eq
  intro i
  rw [Nat.testBit_and, Nat.testBit_two_pow_sub_succ (by omega), Nat.zero_testBit]
  cases q.testBit i
  · rfl
  · simp
theorem pc_low : ∀ (w k : Nat), k ≤ w → pcN w (2 ^ k - 1) = k
  | 0, k, h => by
    have : k = 0 := by omega
    subst this
    rfl
  | w + 1, k, h => by
    by_cases z : k = w + 1
    · rw [z]
      exact pc_full _ fun i hi => by rw [Nat.testBit_two_pow_sub_one, decide_eq_true hi]
    · have e : pcN (w + 1) (2 ^ k - 1) = pcN w (2 ^ k - 1) + (if (2 ^ k - 1).testBit w then 1 else 0) := rfl
      rw [e, pc_low w k (by omega), Nat.testBit_two_pow_sub_one, decide_eq_false (by omega)]
      rfl
theorem tz_at {x k : Nat} (h1 : x.testBit k = true) (h2 : ∀ i, i < k → x.testBit i = false) : ∀ (r j : Nat), j ≤ k → k < j + r → tzN r j x = k - j
  | 0, j, a, b => by omega
  | r + 1, j, a, b => by
    have e : tzN (r + 1) j x = if x.testBit j then 0 else tzN r (j + 1) x + 1 := rfl
    by_cases z : j = k
    · rw [e, z, h1, if_pos rfl, Nat.sub_self]
    · rw [e, h2 j (by omega), if_neg (by decide), tz_at h1 h2 r (j + 1) (by omega) (by omega)]
      omega
theorem tz_none {x : Nat} (h : ∀ i, x.testBit i = false) : ∀ (r j : Nat), tzN r j x = r
  | 0, _ => rfl
  | r + 1, j => by
    have e : tzN (r + 1) j x = if x.testBit j then 0 else tzN r (j + 1) x + 1 := rfl
    rw [e, h j, if_neg (by decide), tz_none h r (j + 1)]
theorem tz_odd {w k q : Nat} (hk : k < w) : tzN w 0 (2 ^ k * (2 * q + 1)) = k := by
  have h1 : (2 ^ k * (2 * q + 1)).testBit k = true := by
    rw [Nat.testBit_two_pow_mul, Nat.sub_self, Nat.testBit_zero]
    simp
  refine (tz_at h1 (fun i hi => ?_) w 0 (Nat.zero_le _) (by omega)).trans (Nat.sub_zero _)
  rw [Nat.testBit_two_pow_mul, decide_eq_false (by omega), Bool.false_and]
theorem u4_or (a b : Int32) : u4 (a ||| b) = u4 a ||| u4 b := by
  show (a ||| b).toBitVec.toNat = _
  rw [Int32.toBitVec_or, BitVec.toNat_or]
  rfl
theorem u8_or (a b : Int64) : u8 (a ||| b) = u8 a ||| u8 b := by
  show (a ||| b).toBitVec.toNat = _
  rw [Int64.toBitVec_or, BitVec.toNat_or]
  rfl
theorem u4_neg (a : Int32) : u4 (-a) = (2 ^ 32 - u4 a) % 2 ^ 32 := by
  show (-a).toBitVec.toNat = _
  rw [Int32.toBitVec_neg, BitVec.toNat_neg]
  rfl
theorem u8_neg (a : Int64) : u8 (-a) = (2 ^ 64 - u8 a) % 2 ^ 64 := by
  show (-a).toBitVec.toNat = _
  rw [Int64.toBitVec_neg, BitVec.toNat_neg]
  rfl
theorem low32 (a : Int32) : pcN 32 (u4 ((a &&& (-a)) - (1 : Int32))) = tzN 32 0 (u4 a) := by
  by_cases z : u4 a = 0
  · have e : a = 0 := u4_inj z
    subst e
    decide +kernel
  · have hl := u4_lt a
    obtain ⟨k, q, e⟩ := odd_of (u4 a) (u4 a) (by omega) (Nat.le_refl _)
    obtain ⟨hk, h1⟩ := low1 e hl
    have e1 : u4 (a &&& (-a)) = 2 ^ k := by rw [u4_and, u4_neg, Nat.mod_eq_of_lt (by omega), h1]
    have hp := Nat.two_pow_pos k
    have e2 : u4 (1 : Int32) = 1 := rfl
    rw [u4_sub (by rw [e1, e2]; exact hp), e1, e2, pc_low 32 k (by omega), e, tz_odd hk]
theorem low64 (a : Int64) : pcN 64 (u8 ((a &&& (-a)) - (1 : Int64))) = tzN 64 0 (u8 a) := by
  by_cases z : u8 a = 0
  · have e : a = 0 := u8_inj z
    subst e
    decide +kernel
  · have hl := u8_lt a
    obtain ⟨k, q, e⟩ := odd_of (u8 a) (u8 a) (by omega) (Nat.le_refl _)
    obtain ⟨hk, h1⟩ := low1 e hl
    have e1 : u8 (a &&& (-a)) = 2 ^ k := by rw [u8_and, u8_neg, Nat.mod_eq_of_lt (by omega), h1]
    have hp := Nat.two_pow_pos k
    have e2 : u8 (1 : Int64) = 1 := rfl
    rw [u8_sub (by rw [e1, e2]; exact hp), e1, e2, pc_low 64 k (by omega), e, tz_odd hk]
theorem high32 {a y1 y2 y3 y4 y5 : Int32} (h1 : a ||| fk_ushr a (1 : Int32) = y1) (h2 : y1 ||| fk_ushr y1 (2 : Int32) = y2) (h3 : y2 ||| fk_ushr y2 (4 : Int32) = y3) (h4 : y3 ||| fk_ushr y3 (8 : Int32) = y4) (h5 : y4 ||| fk_ushr y4 (16 : Int32) = y5) : pcN 32 (u4 y5) + czN 32 (u4 a) = 32 := by
  have g : ∀ {x y : Int32} {s : Nat}, s < 32 → x ||| fk_ushr x (nI s) = y → u4 y = u4 x ||| u4 x / 2 ^ s := fun hs h => by rw [← h, u4_or, u4_ush _ hs]
  have s1 := smear (smear0 (u4 a))
  rw [← g (by decide) h1] at s1
  have s2 := smear s1
  rw [← g (by decide) h2] at s2
  have s3 := smear s2
  rw [← g (by decide) h3] at s3
  have s4 := smear s3
  rw [← g (by decide) h4] at s4
  have s5 := smear s4
  rw [← g (by decide) h5] at s5
  refine pc_smear 32 fun i hi => ?_
  rw [s5]
  refine ⟨fun ⟨j, a1, a2, a3⟩ => ⟨j, a1, bits_in (u4_lt a) a3, a3⟩, fun ⟨j, a1, a2, a3⟩ => ⟨j, a1, by omega, a3⟩⟩
theorem high64 {a y1 y2 y3 y4 y5 y6 : Int64} (h1 : a ||| fk_lushr a (1 : Int32) = y1) (h2 : y1 ||| fk_lushr y1 (2 : Int32) = y2) (h3 : y2 ||| fk_lushr y2 (4 : Int32) = y3) (h4 : y3 ||| fk_lushr y3 (8 : Int32) = y4) (h5 : y4 ||| fk_lushr y4 (16 : Int32) = y5) (h6 : y5 ||| fk_lushr y5 (32 : Int32) = y6) : pcN 64 (u8 y6) + czN 64 (u8 a) = 64 := by
  have g : ∀ {x y : Int64} {s : Nat}, s < 64 → x ||| fk_lushr x (nI s) = y → u8 y = u8 x ||| u8 x / 2 ^ s := fun hs h => by rw [← h, u8_or, u8_ush _ hs]
  have s1 := smear (smear0 (u8 a))
  rw [← g (by decide) h1] at s1
  have s2 := smear s1
  rw [← g (by decide) h2] at s2
  have s3 := smear s2
  rw [← g (by decide) h3] at s3
  have s4 := smear s3
  rw [← g (by decide) h4] at s4
  have s5 := smear s4
  rw [← g (by decide) h5] at s5
  have s6 := smear s5
  rw [← g (by decide) h6] at s6
  refine pc_smear 64 fun i hi => ?_
  rw [s6]
  refine ⟨fun ⟨j, a1, a2, a3⟩ => ⟨j, a1, bits_in (u8_lt a) a3, a3⟩, fun ⟨j, a1, a2, a3⟩ => ⟨j, a1, by omega, a3⟩⟩
section ZERX
variable {d : Nat} {σ : fkS}
theorem c_bits32 {k : Nat} (hk : k ≤ 2) (a : Int32) {P : Int32 → fkS → Prop} (h : P (nI (bitsN k 32 (u4 a))) σ) : Di (d + 1) 129 [.int (nI k), .int a] σ P := by
  have hb : k = 0 ∨ k = 1 ∨ k = 2 := by omega
  refine S_Machine_bits32 (Q := Qi _) ⟨fun z => ⟨fun y => ?_, fun y => ?_⟩, fun z => ?_⟩
  · have hk0 : k = 0 := by
      rcases hb with rfl | rfl | rfl
      · rfl
      · exact absurd rfl y
      · exact absurd rfl z
    subst hk0
    generalize h1 : a ||| fk_ushr a (1 : Int32) = y1
    generalize h2 : y1 ||| fk_ushr y1 (2 : Int32) = y2
    generalize h3 : y2 ||| fk_ushr y2 (4 : Int32) = y3
    generalize h4 : y3 ||| fk_ushr y3 (8 : Int32) = y4
    generalize h5 : y4 ||| fk_ushr y4 (16 : Int32) = y5
    refine c_pop32 _ ⟨rfl, ?_⟩
    have e := high32 h1 h2 h3 h4 h5
    have e2 : (32 : Int32) - nI (pcN 32 (u4 y5)) = nI (czN 32 (u4 a)) := by
      rw [show (32 : Int32) = nI 32 from rfl, nI_sub (by omega)]
      congr 1
      omega
    rw [e2, sW_id]
    exact h
  · have hk1 : k = 1 := by
      have := (nI_eq (a := k) (b := 1) (by omega) (by omega)).mp y
      exact this
    subst hk1
    refine c_pop32 _ ⟨rfl, ?_⟩
    rw [low32, sW_id]
    exact h
  · have hk1 : k = 2 := (nI_eq (a := k) (b := 2) (by omega) (by omega)).mp z
    subst hk1
    refine c_pop32 _ ⟨rfl, ?_⟩
    rw [sW_id]
    exact h
theorem c_bits64 {k : Nat} (hk : k ≤ 2) (a : Int64) {P : Int32 → fkS → Prop} (h : P (nI (bitsN k 64 (u8 a))) σ) : Di (d + 1) 133 [.int (nI k), .long a] σ P := by
  have hb : k = 0 ∨ k = 1 ∨ k = 2 := by omega
  refine S_Machine_bits64 (Q := Qi _) ⟨fun z => ⟨fun y => ?_, fun y => ?_⟩, fun z => ?_⟩
  · have hk0 : k = 0 := by
      rcases hb with rfl | rfl | rfl
      · rfl
      · exact absurd rfl y
      · exact absurd rfl z
    subst hk0
    generalize h1 : a ||| fk_lushr a (1 : Int32) = y1
    generalize h2 : y1 ||| fk_lushr y1 (2 : Int32) = y2
    generalize h3 : y2 ||| fk_lushr y2 (4 : Int32) = y3
    generalize h4 : y3 ||| fk_lushr y3 (8 : Int32) = y4
    generalize h5 : y4 ||| fk_lushr y4 (16 : Int32) = y5
    generalize h6 : y5 ||| fk_lushr y5 (32 : Int32) = y6
    refine c_pop64 _ ⟨rfl, ?_⟩
    have e := high64 h1 h2 h3 h4 h5 h6
    have e2 : (64 : Int32) - nI (pcN 64 (u8 y6)) = nI (czN 64 (u8 a)) := by
      rw [show (64 : Int32) = nI 64 from rfl, nI_sub (by omega)]
      congr 1
      omega
    rw [e2, sW_id]
    exact h
  · have hk1 : k = 1 := (nI_eq (a := k) (b := 1) (by omega) (by omega)).mp y
    subst hk1
    refine c_pop64 _ ⟨rfl, ?_⟩
    rw [low64, sW_id]
    exact h
  · have hk1 : k = 2 := (nI_eq (a := k) (b := 2) (by omega) (by omega)).mp z
    subst hk1
    refine c_pop64 _ ⟨rfl, ?_⟩
    rw [sW_id]
    exact h
end ZERX
