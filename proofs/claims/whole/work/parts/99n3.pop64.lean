/-! NUMBERS: ones of 64 bits; leading and trailing zeros -/
theorem bw_16 {f : Nat → Nat} (hf : ∀ b, b < 256 → f b % 16 ≤ 4 ∧ f b / 16 ≤ 4) : ∀ (k x : Nat), bw f k x + bw f k x / 16 < 256 ^ k
  | 0, _ => by show 0 + 0 / 16 < 1; decide
  | k + 1, x => by
    obtain ⟨h1, h2⟩ := hf (x % 256) (Nat.mod_lt _ (by decide))
    have h3 := bw_16 hf k (x / 256)
    have h4 := (bw_0f hf k (x / 256)).2
    rw [bw, Nat.pow_succ]
    generalize bw f k (x / 256) = Y at h3 h4 ⊢
    generalize f (x % 256) = b at h1 h2 ⊢
    have e : (b + 256 * Y) + (b + 256 * Y) / 16 = (b + b / 16 + 16 * (Y % 16)) + 256 * (Y + Y / 16) := by omega
    rw [e]
    omega
theorem dv_at {a b m : Nat} (h : a < m) : (a + m * b) / m = b := by
  rw [Nat.add_mul_div_left _ _ (Nat.lt_of_le_of_lt (Nat.zero_le _) h), Nat.div_eq_of_lt h, Nat.zero_add]
theorem dig8 {p0 p1 p2 p3 p4 p5 p6 p7 Y0 Y1 Y2 Y3 Y4 Y5 Y6 Y7 : Nat} (h0 : p0 ≤ 8) (h1 : p1 ≤ 8) (h2 : p2 ≤ 8) (h3 : p3 ≤ 8) (h4 : p4 ≤ 8) (h5 : p5 ≤ 8) (h6 : p6 ≤ 8) (h7 : p7 ≤ 8)
    (e0 : Y0 = p0 + 256 * Y1) (e1 : Y1 = p1 + 256 * Y2) (e2 : Y2 = p2 + 256 * Y3) (e3 : Y3 = p3 + 256 * Y4) (e4 : Y4 = p4 + 256 * Y5) (e5 : Y5 = p5 + 256 * Y6) (e6 : Y6 = p6 + 256 * Y7) (e7 : Y7 = p7) :
    Y0 / 256 = Y1 ∧ (Y0 + Y1) / 65536 = Y2 + Y3 ∧ (Y0 + Y1 + (Y2 + Y3)) / 4294967296 = Y4 + Y5 + Y6 + Y7 ∧ Y0 + Y1 + (Y2 + Y3) + (Y4 + Y5 + Y6 + Y7) < 2 ^ 64 ∧ (Y0 + Y1 + (Y2 + Y3) + (Y4 + Y5 + Y6 + Y7)) % 128 = p0 + p1 + p2 + p3 + p4 + p5 + p6 + p7 := by
  have g1 : Y0 + Y1 = (p0 + p1 + 256 * (p1 + p2)) + 65536 * (Y2 + Y3) := by omega
  have g2 : Y0 + Y1 + (Y2 + Y3) = ((p0 + p1 + p2 + p3) + 256 * (p1 + p2 + p3 + p4) + 65536 * (p2 + p3 + p4 + p5) + 16777216 * (p3 + p4 + p5 + p6)) + 4294967296 * (Y4 + Y5 + Y6 + Y7) := by omega
  have g3 : Y0 + Y1 + (Y2 + Y3) + (Y4 + Y5 + Y6 + Y7) = (p0 + p1 + p2 + p3 + p4 + p5 + p6 + p7) + 128 * (2 * (Y1 + Y2 + Y3 + Y4 + Y5 + Y6 + Y7)) := by omega
  refine ⟨?_, ?_, ?_, by omega, ?_⟩
  · rw [e0, dv_at (by omega)]
  · rw [g1, dv_at (by omega)]
  · rw [g2, dv_at (by omega)]
  · rw [g3, Nat.add_mul_mod_self_left, Nat.mod_eq_of_lt (by omega)]
theorem sum8 {x y z w v : Nat} (hy : y = bw (pcN 8) 8 x) (hz : z = y + y / 256) (hw : w = z + z / 65536) (hv : v = w + w / 4294967296) : z < 2 ^ 64 ∧ w < 2 ^ 64 ∧ v < 2 ^ 64 ∧ v % 128 = pcN 64 x := by
  have q0 : bw (pcN 8) 8 x = pcN 8 (x % 256) + 256 * bw (pcN 8) 7 (x / 256) := rfl
  have q1 : bw (pcN 8) 7 (x / 256) = pcN 8 (x / 256 % 256) + 256 * bw (pcN 8) 6 (x / 65536) := by rw [show x / 65536 = x / 256 / 256 by omega]; rfl
  have q2 : bw (pcN 8) 6 (x / 65536) = pcN 8 (x / 65536 % 256) + 256 * bw (pcN 8) 5 (x / 16777216) := by rw [show x / 16777216 = x / 65536 / 256 by omega]; rfl
  have q3 : bw (pcN 8) 5 (x / 16777216) = pcN 8 (x / 16777216 % 256) + 256 * bw (pcN 8) 4 (x / 4294967296) := by rw [show x / 4294967296 = x / 16777216 / 256 by omega]; rfl
  have q4 : bw (pcN 8) 4 (x / 4294967296) = pcN 8 (x / 4294967296 % 256) + 256 * bw (pcN 8) 3 (x / 4294967296 / 256) := rfl
  have q5 : bw (pcN 8) 3 (x / 4294967296 / 256) = pcN 8 (x / 4294967296 / 256 % 256) + 256 * bw (pcN 8) 2 (x / 4294967296 / 65536) := by rw [show x / 4294967296 / 65536 = x / 4294967296 / 256 / 256 by omega]; rfl
  have q6 : bw (pcN 8) 2 (x / 4294967296 / 65536) = pcN 8 (x / 4294967296 / 65536 % 256) + 256 * bw (pcN 8) 1 (x / 4294967296 / 16777216) := by rw [show x / 4294967296 / 16777216 = x / 4294967296 / 65536 / 256 by omega]; rfl
  have q7 : bw (pcN 8) 1 (x / 4294967296 / 16777216) = pcN 8 (x / 4294967296 / 16777216 % 256) := rfl
  obtain ⟨d1, d2, d3, d4, d5⟩ := dig8 (pc8 x) (pc8 (x / 256)) (pc8 (x / 65536)) (pc8 (x / 16777216)) (pc8 (x / 4294967296)) (pc8 (x / 4294967296 / 256)) (pc8 (x / 4294967296 / 65536)) (pc8 (x / 4294967296 / 16777216)) q0 q1 q2 q3 q4 q5 q6 q7
  rw [← hy] at d1 d2 d3 d4 d5
  rw [d1] at hz
  rw [← hz] at d2 d3 d4 d5
  rw [d2] at hw
  rw [← hw] at d3 d4 d5
  rw [d3] at hv
  rw [← hv] at d4 d5
  rw [pc_64, pc_32]
  refine ⟨Nat.lt_of_le_of_lt (by rw [hv, hw]; exact Nat.le_trans (Nat.le_add_right _ _) (Nat.le_add_right _ _)) d4, Nat.lt_of_le_of_lt (by rw [hv]; exact Nat.le_add_right _ _) d4, d4, ?_⟩
  rw [d5]
  generalize pcN 8 (x % 256) + pcN 8 (x / 256 % 256) + pcN 8 (x / 65536 % 256) + pcN 8 (x / 16777216 % 256) = A
  rw [Nat.add_assoc A, Nat.add_assoc A, Nat.add_assoc A]
theorem u4_of8 (a : Int64) : u4 a.toInt32 = u8 a % 2 ^ 32 := by
  show (a.toBitVec.signExtend 32).toNat = _
  rw [BitVec.signExtend_eq_setWidth_of_le _ (by decide), BitVec.toNat_setWidth]
  rfl
theorem pop64 {a y1 y2 y3 y4 y5 y6 : Int64} (h1 : a - (fk_lushr a (1 : Int32) &&& (Int64.ofNat 6148914691236517205)) = y1) (h2 : (y1 &&& (Int64.ofNat 3689348814741910323)) + (fk_lushr y1 (2 : Int32) &&& (Int64.ofNat 3689348814741910323)) = y2) (h3 : (y2 + fk_lushr y2 (4 : Int32)) &&& (Int64.ofNat 1085102592571150095) = y3) (h4 : y3 + fk_lushr y3 (8 : Int32) = y4) (h5 : y4 + fk_lushr y4 (16 : Int32) = y5) (h6 : y5 + fk_lushr y5 (32 : Int32) = y6) : y6.toInt32 &&& (127 : Int32) = nI (pcN 64 (u8 a)) := by
  have ha := u8_lt a
  have c1 : u8 (Int64.ofNat 6148914691236517205) = mkN 85 8 := by decide
  have c2 : u8 (Int64.ofNat 3689348814741910323) = mkN 51 8 := by decide
  have c3 : u8 (Int64.ofNat 1085102592571150095) = mkN 15 8 := by decide
  have e1 : u8 (fk_lushr a (1 : Int32) &&& (Int64.ofNat 6148914691236517205)) = bw f55 8 (u8 a) := by
    rw [u8_and, c1, show (1 : Int32) = nI 1 from rfl, u8_ush _ (by decide), ← bw_55]
  obtain ⟨s1, s2⟩ := bw_sub 8 (u8 a) ha
  have g1 : u8 y1 = bw f1 8 (u8 a) := by rw [← h1, u8_sub (by rw [e1]; exact s1), e1, s2]
  have l2 := bw_lt (fun b hb => (d_256 ⟨b, hb⟩).2.2.2.2.1) 8 (u8 a)
  have l2 : bw f2 8 (u8 a) < 2 ^ 64 := l2
  have g2 : u8 y2 = bw f2 8 (u8 a) := by
    rw [← h2, u8_add, u8_and, u8_and, c2, show (2 : Int32) = nI 2 from rfl, u8_ush _ (by decide), g1, show (2 : Nat) ^ 2 = 4 from rfl, bw_33, Nat.mod_eq_of_lt l2]
  have hh : bw f2 8 (u8 a) + bw f2 8 (u8 a) / 16 < 2 ^ 64 := bw_16 (fun b hb => ⟨(d_256 ⟨b, hb⟩).2.2.1, (d_256 ⟨b, hb⟩).2.2.2.1⟩) 8 (u8 a)
  have g3 : u8 y3 = bw (pcN 8) 8 (u8 a) := by
    rw [← h3, u8_and, u8_add, c3, show (4 : Int32) = nI 4 from rfl, u8_ush _ (by decide), g2, show (2 : Nat) ^ 4 = 16 from rfl, Nat.mod_eq_of_lt hh, bw_all]
  obtain ⟨z1, z2, z3, z4⟩ := sum8 g3 rfl rfl rfl
  have g4 : u8 y4 = u8 y3 + u8 y3 / 256 := by
    rw [← h4, u8_add, show (8 : Int32) = nI 8 from rfl, u8_ush _ (by decide), show (2 : Nat) ^ 8 = 256 from rfl, Nat.mod_eq_of_lt z1]
  have g5 : u8 y5 = u8 y4 + u8 y4 / 65536 := by
    rw [← h5, u8_add, show (16 : Int32) = nI 16 from rfl, u8_ush _ (by decide), show (2 : Nat) ^ 16 = 65536 from rfl, g4, Nat.mod_eq_of_lt z2]
  have g6 : u8 y6 = u8 y5 + u8 y5 / 4294967296 := by
    rw [← h6, u8_add, show (32 : Int32) = nI 32 from rfl, u8_ush _ (by decide), show (2 : Nat) ^ 32 = 4294967296 from rfl, g5, g4, Nat.mod_eq_of_lt z3]
  have hp := pcN_le 64 (u8 a)
  apply u4_inj
  rw [u4_nI (by omega), u4_and, show u4 (127 : Int32) = 2 ^ 7 - 1 from rfl, Nat.and_two_pow_sub_one_eq_mod, u4_of8, g6, g5, g4]
  rw [← z4]
  omega
section POPX
variable {d : Nat} {σ : fkS}
theorem c_pop32 (a : Int32) {P : Int32 → fkS → Prop} (h : P (nI (pcN 32 (u4 a))) σ) : Di d 130 [.int a] σ P := by
  refine S_jInteger_bitCount (Q := Qi _) ⟨rfl, ?_⟩
  generalize h1 : a - (fk_ushr a (1 : Int32) &&& (1431655765 : Int32)) = y1
  generalize h2 : (y1 &&& (858993459 : Int32)) + (fk_ushr y1 (2 : Int32) &&& (858993459 : Int32)) = y2
  generalize h3 : (y2 + fk_ushr y2 (4 : Int32)) &&& (252645135 : Int32) = y3
  generalize h4 : y3 + fk_ushr y3 (8 : Int32) = y4
  generalize h5 : y4 + fk_ushr y4 (16 : Int32) = y5
  rw [pop32 h1 h2 h3 h4 h5]
  exact h
theorem c_pop64 (a : Int64) {P : Int32 → fkS → Prop} (h : P (nI (pcN 64 (u8 a))) σ) : Di d 134 [.long a] σ P := by
  refine S_jLong_bitCount (Q := Qi _) ⟨rfl, ?_⟩
  generalize h1 : a - (fk_lushr a (1 : Int32) &&& (Int64.ofNat 6148914691236517205)) = y1
  generalize h2 : (y1 &&& (Int64.ofNat 3689348814741910323)) + (fk_lushr y1 (2 : Int32) &&& (Int64.ofNat 3689348814741910323)) = y2
  generalize h3 : (y2 + fk_lushr y2 (4 : Int32)) &&& (Int64.ofNat 1085102592571150095) = y3
  generalize h4 : y3 + fk_lushr y3 (8 : Int32) = y4
  generalize h5 : y4 + fk_lushr y4 (16 : Int32) = y5
  generalize h6 : y5 + fk_lushr y5 (32 : Int32) = y6
  rw [pop64 h1 h2 h3 h4 h5 h6]
  exact h
end POPX
