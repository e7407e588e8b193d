/-! NUMBERS, the class: all of them -/
section NUMX
variable {d k op : Nat} {σ : fkS}
theorem c_whole32 (h3 : 3 ≤ k) (h9 : k ≤ 9) (x y : Int32) {P : Int32 → fkS → Prop} (h0 : (i32B k x y).1 = 0 → P (i32B k x y).2 σ) (h1 : (i32B k x y).1 ≠ 0 → ∀ v, P v (sI σ 56 15 (nI (i32B k x y).1))) : Di d 131 [.ref 56, .int (nI k), .int x, .int y] σ P := by
  have ek : (nI k).toInt = k := nI_toInt (by omega)
  have val : ∀ {v : Int32}, i32B k x y = (0, v) → P v σ := fun e => by
    rw [e] at h0
    exact h0 rfl
  have trp : ∀ {v : Nat}, i32B k x y = (v, 0) → v ≠ 0 → P 0 (sI σ 56 15 (nI v)) := fun e hv => by
    rw [e] at h1
    exact h1 hv 0
  have hdv : ∀ {w : Nat × Int32}, 6 ≤ k → (if y = 0 then ((2, 0) : Nat × Int32) else if k = 6 ∧ x = Int32.ofNat 2147483648 ∧ y = -1 then (3, 0) else (0, if k = 6 then x / y else if k = 7 then ⟨⟨x.toBitVec / y.toBitVec⟩⟩ else if k = 8 then (if y = -1 then 0 else x - x / y * y) else ⟨⟨x.toBitVec % y.toBitVec⟩⟩)) = w → i32B k x y = w := fun hk e => by
    unfold i32B
    rw [if_neg (by omega), if_neg (by omega), if_neg (by omega), if_pos h9]
    exact e
  refine S_Machine_whole32 (Q := Qi _) ?_
  rw [ek]
  refine ⟨fun z => ⟨fun y0 => ?_, fun y0 => ⟨rfl, ?_⟩⟩, fun z => ⟨rfl, ?_⟩, fun z => ⟨rfl, ?_⟩, fun z => ⟨rfl, ?_⟩, trivial⟩
  · have hk : 6 ≤ k := by omega
    have W : ¬ (k = 6 ∧ x = Int32.ofNat 2147483648 ∧ y = -1) → Wq 131 d 76 [none, some (.int (nI k)), some (.int x), some (.int y), none, none, none, none] [] σ (Qi fun v σ' => σ'.2.2 = σ.2.2 ∧ P v σ') := fun hn => by
      obtain ⟨d1, d2, d3⟩ := udiv32 (x := x) y0
      refine S_Machine_whole32_76 ?_
      rw [ek]
      refine ⟨fun w => ⟨d1, rfl, val (hdv hk ?_)⟩, fun w => ⟨y0, rfl, val (hdv hk ?_)⟩, fun w => ⟨d1, rfl, val (hdv hk ?_)⟩, fun w => ⟨fun y1 => ⟨y0, rfl, val (hdv hk ?_)⟩, fun y1 => ⟨rfl, val (hdv hk ?_)⟩⟩, trivial⟩
      · rw [if_neg y0, if_neg hn, if_neg (by omega), if_neg (by omega), if_neg (by omega), d3]
      · rw [if_neg y0, if_neg hn, if_pos (by omega)]
      · rw [if_neg y0, if_neg hn, if_neg (by omega), if_pos (by omega), d2]
      · rw [if_neg y0, if_neg hn, if_neg (by omega), if_neg (by omega), if_pos (by omega), if_neg y1]
      · rw [if_neg y0, if_neg hn, if_neg (by omega), if_neg (by omega), if_pos (by omega), if_pos y1]
    refine ⟨fun n6 => W fun w => n6 (by rw [w.1]; rfl), fun e6 => ⟨fun nx => W fun w => nx w.2.1, fun ex => ⟨fun ny => W fun w => ny w.2.2, fun ey => ⟨rfl, trp (v := 3) (hdv hk ?_) (by decide)⟩⟩⟩⟩
    rw [if_neg y0, if_pos ⟨(nI_eq (a := k) (b := 6) (by omega) (by omega)).mp e6, ex, ey⟩]
  · refine trp (v := 2) (hdv (by omega) ?_) (by decide)
    rw [if_pos y0]
  · refine val ?_
    unfold i32B
    rw [if_pos (by omega)]
  · refine val ?_
    unfold i32B
    rw [if_neg (by omega), if_pos (by omega)]
  · refine val ?_
    unfold i32B
    rw [if_neg (by omega), if_neg (by omega), if_pos (by omega)]
theorem c_shift32 (h3 : 10 ≤ k) (h9 : k ≤ 17) (x y : Int32) {P : Int32 → fkS → Prop} (h0 : (i32B k x y).1 = 0 → P (i32B k x y).2 σ) : Di d 132 [.int (nI k), .int x, .int y] σ P := by
  have ek : (nI k).toInt = k := nI_toInt (by omega)
  have h31 : u4 y % 32 < 32 := Nat.mod_lt _ (by decide)
  have hsh : ∀ {v : Int32}, (if k = 10 then x &&& y else if k = 11 then x ||| y else if k = 12 then x ^^^ y else if k = 13 then ⟨⟨x.toBitVec <<< (u4 y % 32)⟩⟩ else if k = 14 then ⟨⟨x.toBitVec.sshiftRight (u4 y % 32)⟩⟩ else if k = 15 then ⟨⟨x.toBitVec >>> (u4 y % 32)⟩⟩ else if k = 16 then ⟨⟨x.toBitVec.rotateLeft (u4 y % 32)⟩⟩ else ⟨⟨x.toBitVec.rotateRight (u4 y % 32)⟩⟩) = v → P v σ := fun e => by
    have e2 : i32B k x y = (0, if k = 10 then x &&& y else if k = 11 then x ||| y else if k = 12 then x ^^^ y else if k = 13 then ⟨⟨x.toBitVec <<< (u4 y % 32)⟩⟩ else if k = 14 then ⟨⟨x.toBitVec.sshiftRight (u4 y % 32)⟩⟩ else if k = 15 then ⟨⟨x.toBitVec >>> (u4 y % 32)⟩⟩ else if k = 16 then ⟨⟨x.toBitVec.rotateLeft (u4 y % 32)⟩⟩ else ⟨⟨x.toBitVec.rotateRight (u4 y % 32)⟩⟩) := by
      unfold i32B
      rw [if_neg (by omega), if_neg (by omega), if_neg (by omega), if_neg (by omega)]
      rfl
    rw [e2, e] at h0
    exact h0 rfl
  refine S_Machine_shifted32 (Q := Qi _) ?_
  rw [ek]
  refine ⟨fun z => ⟨rfl, hsh ?_⟩, fun z => ⟨rfl, hsh ?_⟩, fun z => ⟨rfl, hsh ?_⟩, fun z => ⟨rfl, hsh ?_⟩, fun z => ⟨rfl, hsh ?_⟩, fun z => ⟨rfl, hsh ?_⟩, fun z => ⟨rfl, hsh ?_⟩, fun z => ⟨rfl, hsh ?_⟩, trivial⟩
  · rw [if_neg (by omega), if_neg (by omega), if_neg (by omega), if_neg (by omega), if_neg (by omega), if_neg (by omega), if_neg (by omega), rotr32]
  · rw [if_pos (by omega)]
  · rw [if_neg (by omega), if_pos (by omega)]
  · rw [if_neg (by omega), if_neg (by omega), if_pos (by omega)]
  · rw [if_neg (by omega), if_neg (by omega), if_neg (by omega), if_pos (by omega)]
    apply Int32.toBitVec_inj.mp
    rw [and31, shl_n _ h31]
    rfl
  · rw [if_neg (by omega), if_neg (by omega), if_neg (by omega), if_neg (by omega), if_pos (by omega)]
    apply Int32.toBitVec_inj.mp
    rw [and31, shr_n _ h31]
    rfl
  · rw [if_neg (by omega), if_neg (by omega), if_neg (by omega), if_neg (by omega), if_neg (by omega), if_pos (by omega)]
    apply Int32.toBitVec_inj.mp
    rw [ush_g]
    rfl
  · rw [if_neg (by omega), if_neg (by omega), if_neg (by omega), if_neg (by omega), if_neg (by omega), if_neg (by omega), if_pos (by omega), rotl32]
theorem c_whole64 (h3 : 3 ≤ k) (h9 : k ≤ 9) (x y : Int64) {P : Int64 → fkS → Prop} (h0 : (i64B k x y).1 = 0 → P (i64B k x y).2 σ) (h1 : (i64B k x y).1 ≠ 0 → ∀ v, P v (sI σ 56 15 (nI (i64B k x y).1))) : Dj (d + 2) 135 [.ref 56, .int (nI k), .long x, .long y] σ P := by
  have ek : (nI k).toInt = k := nI_toInt (by omega)
  have val : ∀ {v : Int64}, i64B k x y = (0, v) → P v σ := fun e => by
    rw [e] at h0
    exact h0 rfl
  have trp : ∀ {v : Nat}, i64B k x y = (v, 0) → v ≠ 0 → P 0 (sI σ 56 15 (nI v)) := fun e hv => by
    rw [e] at h1
    exact h1 hv 0
  have hdv : ∀ {w : Nat × Int64}, 6 ≤ k → (if y = 0 then ((2, 0) : Nat × Int64) else if k = 6 ∧ x = Int64.ofNat 9223372036854775808 ∧ y = -1 then (3, 0) else (0, if k = 6 then x / y else if k = 7 then ⟨⟨x.toBitVec / y.toBitVec⟩⟩ else if k = 8 then (if y = -1 then 0 else x - x / y * y) else ⟨⟨x.toBitVec % y.toBitVec⟩⟩)) = w → i64B k x y = w := fun hk e => by
    unfold i64B
    rw [if_neg (by omega), if_neg (by omega), if_neg (by omega), if_pos h9]
    exact e
  have em : Int64.ofNat 18446744073709551615 = -1 := rfl
  refine S_Machine_whole64 (d := d + 1) (Q := Qj _) ?_
  rw [ek]
  refine ⟨fun z => ⟨fun y0 => ?_, fun y0 => ⟨rfl, ?_⟩⟩, fun z => ⟨rfl, ?_⟩, fun z => ⟨rfl, ?_⟩, fun z => ⟨rfl, ?_⟩, trivial⟩
  · have hk : 6 ≤ k := by omega
    have y0 : ¬ y = 0 := fun w => y0 (lg_eq.mpr w)
    have W : ¬ (k = 6 ∧ x = Int64.ofNat 9223372036854775808 ∧ y = -1) → Wq 135 (d + 2) 87 [none, some (.int (nI k)), some (.long x), none, some (.long y), none] [] σ (Qj fun v σ' => σ'.2.2 = σ.2.2 ∧ P v σ') := fun hn => by
      refine S_Machine_whole64_87 ?_
      rw [ek]
      refine ⟨fun w => c_quot y0 ⟨rfl, val (hdv hk ?_)⟩, fun w => ⟨y0, rfl, val (hdv hk ?_)⟩, fun w => c_quot y0 ⟨rfl, val (hdv hk ?_)⟩, fun w => ⟨fun y1 => ⟨y0, rfl, val (hdv hk ?_)⟩, fun y1 => ⟨rfl, val (hdv hk ?_)⟩⟩, trivial⟩
      · rw [if_neg y0, if_neg hn, if_neg (by omega), if_neg (by omega), if_neg (by omega), rem64]
      · rw [if_neg y0, if_neg hn, if_pos (by omega)]
      · rw [if_neg y0, if_neg hn, if_neg (by omega), if_pos (by omega)]
        rfl
      · rw [if_neg y0, if_neg hn, if_neg (by omega), if_neg (by omega), if_pos (by omega), if_neg (show ¬ y = -1 from fun w => y1 (lg_eq.mpr w))]
      · rw [if_neg y0, if_neg hn, if_neg (by omega), if_neg (by omega), if_pos (by omega), if_pos (show y = -1 from lg_eq.mp y1)]
    refine ⟨fun n6 => W fun w => n6 (by rw [w.1]; rfl), fun e6 => ⟨fun nx => W fun w => nx (lg_eq.mpr w.2.1), fun ex => ⟨fun ny => W fun w => ny (lg_eq.mpr w.2.2), fun ey => ⟨rfl, trp (v := 3) (hdv hk ?_) (by decide)⟩⟩⟩⟩
    rw [if_neg y0, if_pos ⟨(nI_eq (a := k) (b := 6) (by omega) (by omega)).mp e6, lg_eq.mp ex, lg_eq.mp ey⟩]
  · refine trp (v := 2) (hdv (by omega) ?_) (by decide)
    rw [if_pos (lg_eq.mp y0)]
  · refine val ?_
    unfold i64B
    rw [if_pos (by omega)]
  · refine val ?_
    unfold i64B
    rw [if_neg (by omega), if_pos (by omega)]
  · refine val ?_
    unfold i64B
    rw [if_neg (by omega), if_neg (by omega), if_pos (by omega)]
theorem c_shift64 (h3 : 10 ≤ k) (h9 : k ≤ 17) (x y : Int64) {P : Int64 → fkS → Prop} (h0 : (i64B k x y).1 = 0 → P (i64B k x y).2 σ) : Dj d 137 [.int (nI k), .long x, .long y] σ P := by
  have ek : (nI k).toInt = k := nI_toInt (by omega)
  have h63 : u8 y % 64 < 64 := Nat.mod_lt _ (by decide)
  have hsh : ∀ {v : Int64}, (if k = 10 then x &&& y else if k = 11 then x ||| y else if k = 12 then x ^^^ y else if k = 13 then ⟨⟨x.toBitVec <<< (u8 y % 64)⟩⟩ else if k = 14 then ⟨⟨x.toBitVec.sshiftRight (u8 y % 64)⟩⟩ else if k = 15 then ⟨⟨x.toBitVec >>> (u8 y % 64)⟩⟩ else if k = 16 then ⟨⟨x.toBitVec.rotateLeft (u8 y % 64)⟩⟩ else ⟨⟨x.toBitVec.rotateRight (u8 y % 64)⟩⟩) = v → P v σ := fun e => by
    have e2 : i64B k x y = (0, if k = 10 then x &&& y else if k = 11 then x ||| y else if k = 12 then x ^^^ y else if k = 13 then ⟨⟨x.toBitVec <<< (u8 y % 64)⟩⟩ else if k = 14 then ⟨⟨x.toBitVec.sshiftRight (u8 y % 64)⟩⟩ else if k = 15 then ⟨⟨x.toBitVec >>> (u8 y % 64)⟩⟩ else if k = 16 then ⟨⟨x.toBitVec.rotateLeft (u8 y % 64)⟩⟩ else ⟨⟨x.toBitVec.rotateRight (u8 y % 64)⟩⟩) := by
      unfold i64B
      rw [if_neg (by omega), if_neg (by omega), if_neg (by omega), if_neg (by omega)]
      rfl
    rw [e2, e] at h0
    exact h0 rfl
  refine S_Machine_shifted64 (Q := Qj _) ?_
  rw [ek]
  refine ⟨fun z => ⟨rfl, hsh ?_⟩, fun z => ⟨rfl, hsh ?_⟩, fun z => ⟨rfl, hsh ?_⟩, fun z => ⟨rfl, hsh ?_⟩, fun z => ⟨rfl, hsh ?_⟩, fun z => ⟨rfl, hsh ?_⟩, fun z => ⟨rfl, hsh ?_⟩, fun z => ⟨rfl, hsh ?_⟩, trivial⟩
  · rw [if_neg (by omega), if_neg (by omega), if_neg (by omega), if_neg (by omega), if_neg (by omega), if_neg (by omega), if_neg (by omega), rotr64]
  · rw [if_pos (by omega)]
  · rw [if_neg (by omega), if_pos (by omega)]
  · rw [if_neg (by omega), if_neg (by omega), if_pos (by omega)]
  · rw [if_neg (by omega), if_neg (by omega), if_neg (by omega), if_pos (by omega)]
    apply Int64.toBitVec_inj.mp
    rw [i64sh, fk_lshl_nat h63]
    rfl
  · rw [if_neg (by omega), if_neg (by omega), if_neg (by omega), if_neg (by omega), if_pos (by omega)]
    apply Int64.toBitVec_inj.mp
    rw [i64sh, fk_lshr_nat h63]
    rfl
  · rw [if_neg (by omega), if_neg (by omega), if_neg (by omega), if_neg (by omega), if_neg (by omega), if_pos (by omega)]
    apply Int64.toBitVec_inj.mp
    rw [i64sh, lush_n _ h63]
    rfl
  · rw [if_neg (by omega), if_neg (by omega), if_neg (by omega), if_neg (by omega), if_neg (by omega), if_neg (by omega), if_pos (by omega), rotl64]
end NUMX
