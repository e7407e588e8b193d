/-! NUMBERS, the reference: all of them -/
theorem rotl0_32 (x : BitVec 32) : x.rotateLeft 0 = x := by
  rw [BitVec.rotateLeft_def, Nat.zero_mod, BitVec.shiftLeft_zero, BitVec.ushiftRight_eq_zero (Nat.le_refl _), BitVec.or_zero]
theorem rotr0_32 (x : BitVec 32) : x.rotateRight 0 = x := by
  rw [BitVec.rotateRight_def, Nat.zero_mod, BitVec.ushiftRight_zero, BitVec.shiftLeft_eq_zero (Nat.le_refl _), BitVec.or_zero]
theorem rotl0_64 (x : BitVec 64) : x.rotateLeft 0 = x := by
  rw [BitVec.rotateLeft_def, Nat.zero_mod, BitVec.shiftLeft_zero, BitVec.ushiftRight_eq_zero (Nat.le_refl _), BitVec.or_zero]
theorem rotr0_64 (x : BitVec 64) : x.rotateRight 0 = x := by
  rw [BitVec.rotateRight_def, Nat.zero_mod, BitVec.ushiftRight_zero, BitVec.shiftLeft_eq_zero (Nat.le_refl _), BitVec.or_zero]
section NUMM
variable {d c op : Nat} {σ : fkS} {a b v : Int64} {A : List Int64} {P : Int64 → fkS → Prop} {Q : fkS → Prop}
theorem m_rec32 (hc : c ≤ 14) (ha : c32 a) (hb : c32 b) (h69 : σ.1 103 69 = 0) (h0 : (i32B (c + 3) a.toInt32 b.toInt32).1 = 0 → ∀ r : Int64, r.toInt32 = (i32B (c + 3) a.toInt32 b.toInt32).2 → P r σ) (h1 : (i32B (c + 3) a.toInt32 b.toInt32).1 ≠ 0 → ∀ r, P r (sI σ 103 69 (nI (i32B (c + 3) a.toInt32 b.toInt32).1))) : Cj (d + 3) 317 [.ref 103, .int (nI c), .long a, .long b, .int 0] σ P := by
  have ek : (nI c).toInt = c := nI_toInt (by omega)
  have val : ∀ {r : Int64} {w : Int32}, i32B (c + 3) a.toInt32 b.toInt32 = (0, w) → r.toInt32 = w → P r σ := fun e hr => by
    rw [e] at h0
    exact h0 rfl _ hr
  have trp : ∀ {w : Nat} {r : Int64}, i32B (c + 3) a.toInt32 b.toInt32 = (w, 0) → w ≠ 0 → P r (sI σ 103 69 (nI w)) := fun e hw => by
    rw [e] at h1
    exact h1 hw _
  have hsm : u4 b.toInt32 % 32 < 32 := Nat.mod_lt _ (by decide)
  have ha2 : (lN (lo32 a)).toInt32 = a.toInt32 := t32_inj (by
    have h3 : lo32 a < 2 ^ 32 := Nat.mod_lt _ (by decide)
    rw [u8_lN (by omega), u4_of8]
    exact Nat.mod_eq_of_lt h3)
  have hhi : 10 ≤ c + 3 → ∀ {w : Int32}, (if c + 3 = 10 then a.toInt32 &&& b.toInt32 else if c + 3 = 11 then a.toInt32 ||| b.toInt32 else if c + 3 = 12 then a.toInt32 ^^^ b.toInt32 else if c + 3 = 13 then ⟨⟨a.toInt32.toBitVec <<< (u4 b.toInt32 % 32)⟩⟩ else if c + 3 = 14 then ⟨⟨a.toInt32.toBitVec.sshiftRight (u4 b.toInt32 % 32)⟩⟩ else if c + 3 = 15 then ⟨⟨a.toInt32.toBitVec >>> (u4 b.toInt32 % 32)⟩⟩ else if c + 3 = 16 then ⟨⟨a.toInt32.toBitVec.rotateLeft (u4 b.toInt32 % 32)⟩⟩ else ⟨⟨a.toInt32.toBitVec.rotateRight (u4 b.toInt32 % 32)⟩⟩) = w → i32B (c + 3) a.toInt32 b.toInt32 = (0, w) := fun hk w e => by
    unfold i32B
    rw [if_neg (by omega), if_neg (by omega), if_neg (by omega), if_neg (by omega)]
    show (0, _) = _
    rw [← e]
    rfl
  have hdv : 3 ≤ c → c ≤ 6 → ∀ {w : Nat × Int32}, (if b.toInt32 = 0 then ((2, 0) : Nat × Int32) else if c + 3 = 6 ∧ a.toInt32 = Int32.ofNat 2147483648 ∧ b.toInt32 = -1 then (3, 0) else (0, if c + 3 = 6 then a.toInt32 / b.toInt32 else if c + 3 = 7 then ⟨⟨a.toInt32.toBitVec / b.toInt32.toBitVec⟩⟩ else if c + 3 = 8 then (if b.toInt32 = -1 then 0 else a.toInt32 - a.toInt32 / b.toInt32 * b.toInt32) else ⟨⟨a.toInt32.toBitVec % b.toInt32.toBitVec⟩⟩)) = w → i32B (c + 3) a.toInt32 b.toInt32 = w := fun hk hk2 w e => by
    unfold i32B
    rw [if_neg (by omega), if_neg (by omega), if_neg (by omega), if_pos (by omega)]
    exact e
  have hdiv : 3 ≤ c → c ≤ 6 → Cj (d + 2) 318 [.ref 103, .int (nI c), .long a, .long b, .long (lN (lo32 a)), .long (lN (lo32 b)), .int 0] σ P := fun h3 h6 => by
    have hlb : lo32 b < 2 ^ 32 := Nat.mod_lt _ (by decide)
    have hla : lo32 a < 2 ^ 32 := Nat.mod_lt _ (by decide)
    have hlbn : b ≠ 0 → lo32 b ≠ 0 := fun hbn z => hbn ((c32_0 hb).mpr (u4_inj (by rw [lo_u4, z]; rfl)))
    refine m_divided (wide := false) ⟨h3, h6⟩ h69 (fun hbn z => ?_) (fun hbz => ?_) (fun h3' hbm ham => ?_) fun hbn hno => ?_
    · have := congrArg u8 z
      rw [u8_lN (by omega)] at this
      exact hlbn hbn this
    · exact trp (hdv h3 h6 (if_pos ((c32_0 hb).mp hbz))) (by decide)
    · refine trp (hdv h3 h6 ?_) (by decide)
      have h1 := (c32_m1 hb).mp hbm
      have h2 := (c32_mn ha).mp ham
      rw [if_neg (by rw [h1]; decide), if_pos ⟨by omega, h2, h1⟩]
    · have hb0 : ¬ b.toInt32 = 0 := fun z => hbn ((c32_0 hb).mpr z)
      have hno2 : ¬ (c + 3 = 6 ∧ a.toInt32 = Int32.ofNat 2147483648 ∧ b.toInt32 = -1) := fun z => hno ⟨by omega, (c32_m1 hb).mpr z.2.2, (c32_mn ha).mpr z.2.1⟩
      refine val (hdv h3 h6 (by rw [if_neg hb0, if_neg hno2])) ?_
      by_cases y3 : c = 3
      · rw [if_pos y3, if_pos (by omega)]
        exact div_32 ha hb fun z => hno2 ⟨by omega, z⟩
      rw [if_neg y3, if_neg (show ¬ c + 3 = 6 by omega)]
      by_cases y4 : c = 4
      · rw [if_pos y4, if_pos (by omega)]
        refine t32_inj ?_
        have e : u4 (⟨⟨a.toInt32.toBitVec / b.toInt32.toBitVec⟩⟩ : Int32) = u4 a.toInt32 / u4 b.toInt32 := BitVec.toNat_udiv
        have e2 : u8 (⟨⟨(lN (lo32 a)).toBitVec / (lN (lo32 b)).toBitVec⟩⟩ : Int64) = u8 (lN (lo32 a)) / u8 (lN (lo32 b)) := BitVec.toNat_udiv
        rw [e, e2, u8_lN (by omega), u8_lN (by omega), lo_u4, lo_u4]
        exact Nat.mod_eq_of_lt (Nat.lt_of_le_of_lt (Nat.div_le_self _ _) hla)
      rw [if_neg y4, if_neg (show ¬ c + 3 = 7 by omega)]
      by_cases y5 : c = 5
      · rw [if_pos y5, if_pos (show c + 3 = 8 by omega)]
        by_cases ym : b = -1
        · rw [if_pos ym, if_pos ((c32_m1 hb).mp ym)]
          rfl
        · have ym2 : ¬ b.toInt32 = -1 := fun z => ym ((c32_m1 hb).mpr z)
          rw [if_neg ym, if_neg ym2, Int64.toInt32_sub, Int64.toInt32_mul, div_32 ha hb fun z => ym2 z.2]
      · rw [if_neg y5, if_neg (show ¬ c + 3 = 8 by omega)]
        refine t32_inj ?_
        have e : u4 (⟨⟨a.toInt32.toBitVec % b.toInt32.toBitVec⟩⟩ : Int32) = u4 a.toInt32 % u4 b.toInt32 := BitVec.toNat_umod
        have e2 : u8 (⟨⟨(lN (lo32 a)).toBitVec % (lN (lo32 b)).toBitVec⟩⟩ : Int64) = u8 (lN (lo32 a)) % u8 (lN (lo32 b)) := BitVec.toNat_umod
        rw [e, e2, u8_lN (by omega), u8_lN (by omega), lo_u4, lo_u4]
        exact Nat.mod_eq_of_lt (Nat.lt_of_le_of_lt (Nat.mod_le _ _) hla)
  have e32 : ∀ {s : Nat}, s < 32 → (32 : Int32) - nI s = nI (32 - s) := fun hs => by
    rw [show (32 : Int32) = nI 32 from rfl, nI_sub (by omega)]
  have sh := sh32 b
  refine S_M_reckoned ⟨fun _ => S_M_reckoned_14 ⟨fun _ => ⟨fun _ => S_M_reckoned_46 ?_, fun z => absurd rfl z⟩, fun z => absurd rfl z⟩, fun z => absurd rfl z⟩
  rw [ek, and32, and32, sh]
  refine ⟨fun z => ?_, fun z => ?_, fun z => ?_, fun z => ?_, fun z => hdiv (by omega) (by omega), fun z => hdiv (by omega) (by omega), fun z => hdiv (by omega) (by omega), fun z => hdiv (by omega) (by omega), fun z => ?_, fun z => ?_, fun z => ?_, fun z => ?_, fun z => ?_, fun z => ?_, fun z => ?_, trivial⟩
  · have hv := hhi (by omega) (by rw [if_neg (by omega), if_neg (by omega), if_neg (by omega), if_neg (by omega), if_neg (by omega), if_neg (by omega), if_neg (by omega)])
    refine And.comm.mp (pk_eq (u4 b.toInt32 % 32) 0 (fun y => val hv ?_) fun y => val hv ?_)
    · rw [y, rotr0_32]
      rfl
    · rw [e32 hsm, t32_or, lushr_32 _ (by omega), shl_32 _ (by omega)]
      apply Int32.toBitVec_inj.mp
      rw [Int32.toBitVec_or]
      show _ = a.toInt32.toBitVec.rotateRight (u4 b.toInt32 % 32)
      rw [BitVec.rotateRight_def, Nat.mod_eq_of_lt hsm]
      rfl
  · refine val ?_ (Int64.toInt32_add a b)
    unfold i32B
    rw [if_pos (by omega)]
  · refine val ?_ (Int64.toInt32_sub a b)
    unfold i32B
    rw [if_neg (by omega), if_pos (by omega)]
  · refine val ?_ (Int64.toInt32_mul a b)
    unfold i32B
    rw [if_neg (by omega), if_neg (by omega), if_pos (by omega)]
  · exact val (hhi (by omega) (by rw [if_pos (by omega)])) (t32_and a b)
  · exact val (hhi (by omega) (by rw [if_neg (by omega), if_pos (by omega)])) (t32_or a b)
  · exact val (hhi (by omega) (by rw [if_neg (by omega), if_neg (by omega), if_pos (by omega)])) (t32_xor a b)
  · exact val (hhi (by omega) (by rw [if_neg (by omega), if_neg (by omega), if_neg (by omega), if_pos (by omega)])) (shl_32 a hsm)
  · exact val (hhi (by omega) (by rw [if_neg (by omega), if_neg (by omega), if_neg (by omega), if_neg (by omega), if_pos (by omega)])) (shr_32 ha hsm)
  · exact val (hhi (by omega) (by rw [if_neg (by omega), if_neg (by omega), if_neg (by omega), if_neg (by omega), if_neg (by omega), if_pos (by omega)])) (lushr_32 a (by omega))
  · have hv := hhi (by omega) (by rw [if_neg (by omega), if_neg (by omega), if_neg (by omega), if_neg (by omega), if_neg (by omega), if_neg (by omega), if_pos (by omega)])
    refine And.comm.mp (pk_eq (u4 b.toInt32 % 32) 0 (fun y => val hv ?_) fun y => val hv ?_)
    · rw [y, rotl0_32]
      rfl
    · rw [e32 hsm, t32_or, lushr_32 _ (by omega), shl_32 _ (by omega)]
      apply Int32.toBitVec_inj.mp
      rw [Int32.toBitVec_or]
      show _ = a.toInt32.toBitVec.rotateLeft (u4 b.toInt32 % 32)
      rw [BitVec.rotateLeft_def, Nat.mod_eq_of_lt hsm]
      rfl
theorem m_rec64 (hc : c ≤ 14) (h69 : σ.1 103 69 = 0) (h0 : (i64B (c + 3) a b).1 = 0 → P (i64B (c + 3) a b).2 σ) (h1 : (i64B (c + 3) a b).1 ≠ 0 → ∀ r, P r (sI σ 103 69 (nI (i64B (c + 3) a b).1))) : Cj (d + 3) 317 [.ref 103, .int (nI c), .long a, .long b, .int 1] σ P := by
  have ek : (nI c).toInt = c := nI_toInt (by omega)
  have val : ∀ {r : Int64}, i64B (c + 3) a b = (0, r) → P r σ := fun e => by
    rw [e] at h0
    exact h0 rfl
  have trp : ∀ {w : Nat} {r : Int64}, i64B (c + 3) a b = (w, 0) → w ≠ 0 → P r (sI σ 103 69 (nI w)) := fun e hw => by
    rw [e] at h1
    exact h1 hw _
  have hsm : u8 b % 64 < 64 := Nat.mod_lt _ (by decide)
  have hhi : 10 ≤ c + 3 → ∀ {w : Int64}, (if c + 3 = 10 then a &&& b else if c + 3 = 11 then a ||| b else if c + 3 = 12 then a ^^^ b else if c + 3 = 13 then ⟨⟨a.toBitVec <<< (u8 b % 64)⟩⟩ else if c + 3 = 14 then ⟨⟨a.toBitVec.sshiftRight (u8 b % 64)⟩⟩ else if c + 3 = 15 then ⟨⟨a.toBitVec >>> (u8 b % 64)⟩⟩ else if c + 3 = 16 then ⟨⟨a.toBitVec.rotateLeft (u8 b % 64)⟩⟩ else ⟨⟨a.toBitVec.rotateRight (u8 b % 64)⟩⟩) = w → i64B (c + 3) a b = (0, w) := fun hk w e => by
    unfold i64B
    rw [if_neg (by omega), if_neg (by omega), if_neg (by omega), if_neg (by omega)]
    show (0, _) = _
    rw [← e]
    rfl
  have hdv : 3 ≤ c → c ≤ 6 → ∀ {w : Nat × Int64}, (if b = 0 then ((2, 0) : Nat × Int64) else if c + 3 = 6 ∧ a = Int64.ofNat 9223372036854775808 ∧ b = -1 then (3, 0) else (0, if c + 3 = 6 then a / b else if c + 3 = 7 then ⟨⟨a.toBitVec / b.toBitVec⟩⟩ else if c + 3 = 8 then (if b = -1 then 0 else a - a / b * b) else ⟨⟨a.toBitVec % b.toBitVec⟩⟩)) = w → i64B (c + 3) a b = w := fun hk hk2 w e => by
    unfold i64B
    rw [if_neg (by omega), if_neg (by omega), if_neg (by omega), if_pos (by omega)]
    exact e
  have hdiv : 3 ≤ c → c ≤ 6 → Cj (d + 2) 318 [.ref 103, .int (nI c), .long a, .long b, .long a, .long b, .int 1] σ P := fun h3 h6 => by
    refine m_divided (wide := true) ⟨h3, h6⟩ h69 (fun hbn => hbn) (fun hbz => ?_) (fun h3' hbm ham => ?_) fun hbn hno => ?_
    · exact trp (hdv h3 h6 (if_pos hbz)) (by decide)
    · refine trp (hdv h3 h6 ?_) (by decide)
      rw [if_neg (by rw [hbm]; decide), if_pos ⟨by omega, ham, hbm⟩]
    · have hno2 : ¬ (c + 3 = 6 ∧ a = Int64.ofNat 9223372036854775808 ∧ b = -1) := fun z => hno ⟨by omega, z.2.2, z.2.1⟩
      have e : (if c = 3 then a / b else if c = 4 then ⟨⟨a.toBitVec / b.toBitVec⟩⟩ else if c = 5 then (if b = -1 then 0 else a - a / b * b) else ⟨⟨a.toBitVec % b.toBitVec⟩⟩) = (if c + 3 = 6 then a / b else if c + 3 = 7 then ⟨⟨a.toBitVec / b.toBitVec⟩⟩ else if c + 3 = 8 then (if b = -1 then 0 else a - a / b * b) else ⟨⟨a.toBitVec % b.toBitVec⟩⟩ : Int64) := by
        by_cases y3 : c = 3
        · rw [if_pos y3, if_pos (by omega)]
        rw [if_neg y3, if_neg (show ¬ c + 3 = 6 by omega)]
        by_cases y4 : c = 4
        · rw [if_pos y4, if_pos (by omega)]
        rw [if_neg y4, if_neg (show ¬ c + 3 = 7 by omega)]
        by_cases y5 : c = 5
        · rw [if_pos y5, if_pos (show c + 3 = 8 by omega)]
        · rw [if_neg y5, if_neg (show ¬ c + 3 = 8 by omega)]
      rw [e]
      exact val (hdv h3 h6 (by rw [if_neg hbn, if_neg hno2]))
  have e64 : ∀ {s : Nat}, s < 64 → (64 : Int32) - nI s = nI (64 - s) := fun hs => by
    rw [show (64 : Int32) = nI 64 from rfl, nI_sub (by omega)]
  have sh := sh64 b
  refine S_M_reckoned ⟨fun z => absurd z (by decide), fun _ => S_M_reckoned_14 ⟨fun z => absurd z (by decide), fun _ => ⟨fun z => absurd z (by decide), fun _ => S_M_reckoned_46 ?_⟩⟩⟩
  rw [ek, sh]
  refine ⟨fun z => ?_, fun z => ?_, fun z => ?_, fun z => ?_, fun z => hdiv (by omega) (by omega), fun z => hdiv (by omega) (by omega), fun z => hdiv (by omega) (by omega), fun z => hdiv (by omega) (by omega), fun z => ?_, fun z => ?_, fun z => ?_, fun z => ?_, fun z => ?_, fun z => ?_, fun z => ?_, trivial⟩
  · have hv := hhi (by omega) (by rw [if_neg (by omega), if_neg (by omega), if_neg (by omega), if_neg (by omega), if_neg (by omega), if_neg (by omega), if_neg (by omega)])
    refine And.comm.mp (pk_eq (u8 b % 64) 0 (fun y => ?_) fun y => ?_)
    · rw [y, rotr0_64] at hv
      exact val hv
    · rw [e64 hsm]
      refine (val (hv.trans (congrArg _ ?_)))
      apply Int64.toBitVec_inj.mp
      rw [Int64.toBitVec_or, lush_n _ hsm, fk_lshl_nat (by omega)]
      show a.toBitVec.rotateRight (u8 b % 64) = _
      rw [BitVec.rotateRight_def, Nat.mod_eq_of_lt hsm]
  · refine val ?_
    unfold i64B
    rw [if_pos (by omega)]
  · refine val ?_
    unfold i64B
    rw [if_neg (by omega), if_pos (by omega)]
  · refine val ?_
    unfold i64B
    rw [if_neg (by omega), if_neg (by omega), if_pos (by omega)]
  · exact val (hhi (by omega) (by rw [if_pos (by omega)]))
  · exact val (hhi (by omega) (by rw [if_neg (by omega), if_pos (by omega)]))
  · exact val (hhi (by omega) (by rw [if_neg (by omega), if_neg (by omega), if_pos (by omega)]))
  · refine val ((hhi (by omega) (by rw [if_neg (by omega), if_neg (by omega), if_neg (by omega), if_pos (by omega)])).trans (congrArg _ ?_))
    exact Int64.toBitVec_inj.mp (fk_lshl_nat hsm).symm
  · refine val ((hhi (by omega) (by rw [if_neg (by omega), if_neg (by omega), if_neg (by omega), if_neg (by omega), if_pos (by omega)])).trans (congrArg _ ?_))
    exact Int64.toBitVec_inj.mp (fk_lshr_nat hsm).symm
  · refine val ((hhi (by omega) (by rw [if_neg (by omega), if_neg (by omega), if_neg (by omega), if_neg (by omega), if_neg (by omega), if_pos (by omega)])).trans (congrArg _ ?_))
    exact Int64.toBitVec_inj.mp (lush_n _ hsm).symm
  · have hv := hhi (by omega) (by rw [if_neg (by omega), if_neg (by omega), if_neg (by omega), if_neg (by omega), if_neg (by omega), if_neg (by omega), if_pos (by omega)])
    refine And.comm.mp (pk_eq (u8 b % 64) 0 (fun y => ?_) fun y => ?_)
    · rw [y, rotl0_64] at hv
      exact val hv
    · rw [e64 hsm]
      refine (val (hv.trans (congrArg _ ?_)))
      apply Int64.toBitVec_inj.mp
      rw [Int64.toBitVec_or, lush_n _ (by omega), fk_lshl_nat hsm]
      show a.toBitVec.rotateLeft (u8 b % 64) = _
      rw [BitVec.rotateLeft_def, Nat.mod_eq_of_lt hsm]
end NUMM
