/-! THE CALLS THAT LOOK AT A MODULE: count, global, memory, table, export -/
theorem m_isIn {d : Nat} {a : Int32} {N : Nat} {σ : fkS} (hN : N < 2 ^ 31) : Ci d 293 [.int a, .int (nI N)] σ (fun r σ' => σ' = σ ∧ ((r = 0 ∧ ∀ k, k < N → a ≠ nI k) ∨ ∃ k, k < N ∧ a = nI k ∧ r = 1)) := by
  refine S_M_isIn ⟨fun z => ⟨rfl, .inl ⟨rfl, fun k hk h => ?_⟩⟩, fun z => ⟨fun w => ⟨rfl, .inl ⟨rfl, fun k hk h => ?_⟩⟩, fun w => ⟨rfl, .inr ?_⟩⟩⟩
  · rw [h] at z
    exact nI_pos (by omega) z
  · rw [h] at w
    exact nI_ge hk hN w
  · obtain ⟨k, hk, rfl⟩ := nI_of z
    refine ⟨k, ?_, rfl, rfl⟩
    exact Nat.not_le.mp fun h => w (nI_le h hk)
section LOOKS
variable {t : Nat → UInt8} {n b d : Nat} {m : Md} {σ : fkS} {J : fkS → Prop}
def cntV (m : Md) (p : Nat) (a : Int) : Int32 := if a = 0 then nI (mdT m).length else if a = 1 then nI (mdU m).length else if a = 2 then (if (mdA m).length = 0 then -1 else nI (tbN m)) else if a = 3 then (if (mdM m).length = 0 then -1 else nI p) else if a = 4 then nI (mdG m).length else if a = 5 then nI (mdE m).length else -1
theorem op_count (h03 : σ.2.2 0 3 = 4) (hK : KN σ) (hJ : J σ) (a0 : Int32) : Ci d 100 [.ref 0, .int a0] σ (fun r σ1 => Ci d 291 [.ref 103, .int a0] σ1 (fun r2 σ2 => r = r2 ∧ J σ2)) := by
  rcases hK with ⟨h1, h2, -⟩ | ⟨t, n, m, b, h1, h2, hb, h37, hok, hY, -, hM, -, -, -, ⟨p, mm, hV⟩, -⟩
  · exact S_X_count h03 ⟨fun z => absurd h1 z, fun _ => S_M_count ⟨fun z => absurd h2 z, fun _ => ⟨rfl, hJ⟩⟩⟩
  have n1 : ¬ σ.1 0 5 = 0 := by rw [h1]; decide
  have n2 : ¬ σ.1 103 39 = 0 := by rw [h2]; decide
  obtain ⟨v1, v2, v3, v4, v5, -⟩ := vd_facts hok.2.2.2.2.1
  have eA : ¬ (mdA m).length = 0 → tbN m = (liLast (mdA m)).1 := fun z => if_pos (by omega)
  have e31 : σ.1 3 1 = nI (mdT m).length := hY.1.1
  have e33 : σ.1 3 3 = nI (mdU m).length := hY.2.1.1
  have e35 : σ.1 3 5 = nI (mdA m).length := hY.2.2.1.1
  have e37 : σ.1 3 7 = nI (mdM m).length := hY.2.2.2.1.1
  have e39 : σ.1 3 9 = nI (mdG m).length := hY.2.2.2.2.1.1
  have e312 : σ.1 3 12 = nI (mdE m).length := hY.2.2.2.2.2.1.1
  have hX : Ci d 100 [.ref 0, .int a0] σ (fun r σ1 => r = cntV m p a0.toInt ∧ σ1 = σ) := by
    refine S_X_count h03 ⟨fun _ => ⟨fun z => ?_, fun z => ⟨by decide, ?_⟩, fun z => ⟨by decide, ?_⟩, fun z => ⟨by decide, ?_⟩, fun z => ⟨by decide, ?_⟩, fun z => ⟨by decide, ?_⟩, fun z => ⟨by decide, ?_⟩, trivial⟩, fun z => absurd z n1⟩
    · refine ⟨?_, rfl⟩
      unfold cntV
      rw [if_neg (by omega), if_neg (by omega), if_neg (by omega), if_neg (by omega), if_neg (by omega), if_neg (by omega)]
    · refine ⟨?_, rfl⟩
      unfold cntV
      rw [if_pos z, e31]
    · refine ⟨?_, rfl⟩
      unfold cntV
      rw [if_neg (by omega), if_pos z, e33]
    · rw [e35]
      refine pk_le (mdA m).length 0 (fun w => ⟨?_, rfl⟩) fun w => ⟨?_, rfl⟩
      · unfold cntV
        rw [if_neg (by omega), if_neg (by omega), if_pos z, if_pos (by omega)]
      · unfold cntV
        rw [if_neg (by omega), if_neg (by omega), if_pos z, if_neg (by omega)]
        exact hV.2.2.2.2.1
    · rw [e37]
      refine pk_le (mdM m).length 0 (fun w => ⟨?_, rfl⟩) fun w => ⟨?_, rfl⟩
      · unfold cntV
        rw [if_neg (by omega), if_neg (by omega), if_neg (by omega), if_pos z, if_pos (by omega)]
      · unfold cntV
        rw [if_neg (by omega), if_neg (by omega), if_neg (by omega), if_pos z, if_neg (by omega)]
        exact hV.2.1
    · refine ⟨?_, rfl⟩
      unfold cntV
      rw [if_neg (by omega), if_neg (by omega), if_neg (by omega), if_neg (by omega), if_pos z, e39]
    · refine ⟨?_, rfl⟩
      unfold cntV
      rw [if_neg (by omega), if_neg (by omega), if_neg (by omega), if_neg (by omega), if_neg (by omega), if_pos z, e312]
  refine hX.mono fun x σ1 hx => ?_
  obtain ⟨r, rfl, rfl, rfl⟩ := Qi_s hx
  have vb : vp_in (σ1.1 103 37) 2 := by rw [h37]; exact vp_in_nI hb (by decide)
  have ec : (σ1.1 103 37).toNatClampNeg = b := by rw [h37, nI_clamp (by omega)]
  show Ci d 291 [.ref 103, .int a0] σ1 (fun r2 σ2 => cntV m p a0.toInt = r2 ∧ J σ2)
  refine S_M_count ⟨fun _ => ⟨fun z => ?_, fun z => ⟨vb, ?_⟩, fun z => ⟨vb, ?_⟩, fun z => ⟨vb, ?_⟩, fun z => ⟨vb, ?_⟩, fun z => ⟨vb, ?_⟩, fun z => ⟨vb, ?_⟩, trivial⟩, fun z => absurd z n2⟩
  · refine ⟨?_, hJ⟩
    unfold cntV
    rw [if_neg (by omega), if_neg (by omega), if_neg (by omega), if_neg (by omega), if_neg (by omega), if_neg (by omega)]
  · refine ⟨?_, hJ⟩
    unfold cntV
    rw [if_pos z, ec]
    exact hM.1.2.symm
  · refine ⟨?_, hJ⟩
    unfold cntV
    rw [if_neg (by omega), if_pos z, ec]
    exact hM.2.1.2.symm
  · rw [ec, hM.2.2.1.2]
    have l3 : (mdA m).length ≤ 60 := hok.1.2.2.1
    refine And.comm.mp (pk_eq (mdA m).length 0 (fun w => ⟨?_, hJ⟩) fun w => ⟨vb, ?_, hJ⟩)
    · unfold cntV
      rw [if_neg (by omega), if_neg (by omega), if_pos z, if_pos w]
    · unfold cntV
      rw [if_neg (by omega), if_neg (by omega), if_pos z, if_neg w, (hM.2.2.1.1 0 _ (li_first (by omega)) rfl).1, lN_i32, eA w]
  · rw [ec, hM.2.2.2.1.2]
    have l4 : (mdM m).length ≤ 60 := hok.1.2.2.2.1
    refine And.comm.mp (pk_eq (mdM m).length 0 (fun w => ⟨?_, hJ⟩) fun w => ⟨?_, hJ⟩)
    · unfold cntV
      rw [if_neg (by omega), if_neg (by omega), if_neg (by omega), if_pos z, if_pos w]
    · unfold cntV
      rw [if_neg (by omega), if_neg (by omega), if_neg (by omega), if_pos z, if_neg w]
      exact hV.2.2.1.symm
  · refine ⟨?_, hJ⟩
    unfold cntV
    rw [if_neg (by omega), if_neg (by omega), if_neg (by omega), if_neg (by omega), if_pos z, ec]
    exact hM.2.2.2.2.1.2.symm
  · refine ⟨?_, hJ⟩
    unfold cntV
    rw [if_neg (by omega), if_neg (by omega), if_neg (by omega), if_neg (by omega), if_neg (by omega), if_pos z, ec]
    exact hM.2.2.2.2.2.1.2.symm
theorem op_global (h03 : σ.2.2 0 3 = 4) (hK : KN σ) (hJ : J σ) (a0 : Int32) : Cj (d + 1) 139 [.ref 0, .int a0] σ (fun r σ1 => Cj (d + 1) 321 [.ref 103, .int a0] σ1 (fun r2 σ2 => r = r2 ∧ J σ2)) := by
  rcases hK with ⟨h1, h2, -⟩ | ⟨t, n, m, b, h1, h2, hb, h37, hok, hY, -, hM, -, -, -, ⟨p, mm, hV⟩, -⟩
  · exact S_X_global h03 ⟨fun _ => S_M_global ⟨fun _ => ⟨rfl, hJ⟩, fun z => absurd h2 z⟩, fun z => absurd h1 z⟩
  have n1 : ¬ σ.1 0 5 = 0 := by rw [h1]; decide
  have n2 : ¬ σ.1 103 39 = 0 := by rw [h2]; decide
  have l5 : (mdG m).length ≤ 60 := hok.1.2.2.2.2.1
  have e39 : σ.1 3 9 = nI (mdG m).length := hY.2.2.2.2.1.1
  have e113 : σ.1 113 b = nI (mdG m).length := hM.2.2.2.2.1.2
  have vb : vp_in (σ.1 103 37) 2 := by rw [h37]; exact vp_in_nI hb (by decide)
  have ec : (σ.1 103 37).toNatClampNeg = b := by rw [h37, nI_clamp (by omega)]
  have ref : ∀ v : Int64, ((∀ k, k < (mdG m).length → a0 ≠ nI k) → v = 0) → (∀ k, k < (mdG m).length → a0 = nI k → v = σ.2.1 146 k) → Cj (d + 1) 321 [.ref 103, .int a0] σ (fun r2 σ2 => v = r2 ∧ J σ2) := fun v k1 k2 => by
    refine S_M_global ⟨fun z => absurd z n2, fun _ => ⟨vb, ?_⟩⟩
    rw [ec, e113]
    refine (m_isIn (by omega)).mono fun x σ1 hx => ?_
    obtain ⟨r, rfl, rfl, hr⟩ := Qi_s hx
    rcases hr with ⟨rfl, hr⟩ | ⟨k, hk, rfl, rfl⟩
    · exact ⟨fun _ => ⟨k1 hr, hJ⟩, fun z => absurd rfl z⟩
    · refine ⟨fun z => absurd z (by decide), fun _ => ⟨vp_in_nI (by omega) (by decide), ?_, hJ⟩⟩
      rw [nI_clamp (by omega)]
      exact k2 k hk rfl
  refine S_X_global h03 ⟨fun z => absurd z n1, fun _ => ⟨fun z => ?_, fun z => ⟨by decide, ?_⟩⟩⟩
  · refine ref 0 (fun _ => rfl) fun k hk h => ?_
    rw [h] at z
    exact absurd z (nI_pos (by omega))
  · rw [e39]
    obtain ⟨k, hk, rfl⟩ := nI_of z
    refine pk_le (mdG m).length k (fun w => ?_) fun w => ⟨vp_in_nI (by omega) (by decide), ?_⟩
    · refine ref 0 (fun _ => rfl) fun j hj h => ?_
      have := (nI_eq hk (by omega)).mp h
      omega
    · rw [nI_clamp (by omega)]
      refine ref _ (fun h => absurd rfl (h k w)) fun j hj h => ?_
      have := (nI_eq hk (by omega)).mp h
      subst this
      exact hV.2.2.2.2.2.2 k hj
theorem op_table (hK : KN σ) (hJ : J σ) (a0 : Int32) : Ci d 141 [.ref 0, .int a0] σ (fun r σ1 => Ci d 323 [.ref 103, .int a0] σ1 (fun r2 σ2 => r = r2 ∧ J σ2)) := by
  rcases hK with ⟨h1, h2, -⟩ | ⟨t, n, m, b, h1, h2, hb, h37, hok, hY, -, hM, -, -, -, ⟨p, mm, hV⟩, -⟩
  · exact S_X_table ⟨fun _ => S_M_table ⟨fun _ => ⟨rfl, hJ⟩, fun z => absurd h2 z⟩, fun z => absurd h1 z⟩
  have n1 : ¬ σ.1 0 5 = 0 := by rw [h1]; decide
  have n2 : ¬ σ.1 103 39 = 0 := by rw [h2]; decide
  obtain ⟨v1, v2, v3, v4, v5, -⟩ := vd_facts hok.2.2.2.2.1
  have htb : tbN m ≤ 100 := (lim_le v4).1
  have e111 : σ.1 111 b = nI (mdA m).length := hM.2.2.1.2
  have vb : vp_in (σ.1 103 37) 2 := by rw [h37]; exact vp_in_nI hb (by decide)
  have ec : (σ.1 103 37).toNatClampNeg = b := by rw [h37, nI_clamp (by omega)]
  have ref : ∀ v : Int32, ((∀ k, k < tbN m → a0 ≠ nI k) → v = -2) → (∀ k, k < tbN m → a0 = nI k → v = σ.1 147 k) → Ci d 323 [.ref 103, .int a0] σ (fun r2 σ2 => v = r2 ∧ J σ2) := fun v k1 k2 => by
    refine S_M_table ⟨fun z => absurd z n2, fun _ => ⟨vb, ?_⟩⟩
    rw [ec, e111]
    refine And.comm.mp (pk_eq (mdA m).length 1 (fun w => ?_) fun w => ⟨k1 fun k hk => ?_, hJ⟩)
    · have e118 : σ.2.1 118 b = lN (tbN m) := by
        rw [(hM.2.2.1.1 0 _ (li_first w) rfl).1]
        unfold tbN lsN
        rw [if_pos w]
      refine ⟨fun z => ⟨k1 fun k hk h => ?_, hJ⟩, fun z => ⟨vb, ?_⟩⟩
      · rw [h] at z
        exact nI_pos (by omega) z
      · obtain ⟨k, hk, rfl⟩ := nI_of z
        rw [e118, nI_l hk, lg_cmp_ge, pk_lLE (by omega) (by omega)]
        refine ⟨fun q => ⟨k1 fun j hj h => ?_, hJ⟩, fun q => ⟨vp_in_nI (by omega) (by decide), ?_, hJ⟩⟩
        · have := (nI_eq hk (by omega)).mp h
          omega
        · rw [nI_clamp (by omega)]
          exact k2 k (by omega) rfl
    · have : tbN m = 0 := if_neg w
      omega
  have e566 : σ.1 56 6 = nI (tbN m) := hV.2.2.2.2.1
  refine S_X_table ⟨fun z => absurd z n1, fun _ => ⟨fun z => ?_, fun z => ?_⟩⟩
  · refine ref _ (fun _ => rfl) fun k hk h => ?_
    rw [h] at z
    exact absurd z (nI_pos (by omega))
  · rw [e566]
    obtain ⟨k, hk, rfl⟩ := nI_of z
    refine pk_lt k (tbN m) (fun w => ⟨vp_in_nI (by omega) (by decide), ?_⟩) fun w => ?_
    · rw [nI_clamp (by omega)]
      refine ref _ (fun h => absurd rfl (h k w)) fun j hj h => ?_
      have := (nI_eq hk (by omega)).mp h
      subst this
      obtain ⟨a1, a2⟩ := hV.2.2.2.2.2.1 k (by omega)
      exact a1.trans a2.symm
    · refine ref _ (fun _ => rfl) fun j hj h => ?_
      have := (nI_eq hk (by omega)).mp h
      omega
/-! a byte of the memory, the class -/
theorem by8_X (x : Int64) {k : Nat} (hk : k < 8) : (fk_lushr x (nI (8 * k))).toInt32 &&& (255 : Int32) = bI (by8 x k) := by
  have e : ((nI (8 * k)).toInt64.toUInt64 &&& Int64.toUInt64 63).toBitVec.toNat % 64 = 8 * k := by
    have key : ∀ k : Fin 8, ((nI (8 * k.val)).toInt64.toUInt64 &&& Int64.toUInt64 63).toBitVec.toNat % 64 = 8 * k.val := by decide +kernel
    exact key ⟨k, hk⟩
  apply Int32.toBitVec_inj.mp
  rw [Int32.toBitVec_and]
  show (BitVec.signExtend 32 (x.toBitVec >>> (((nI (8 * k)).toInt64.toUInt64 &&& Int64.toUInt64 63).toBitVec % 64#64))) &&& 255#32 = BitVec.ofNat 32 ((x.toBitVec >>> (8 * k)).setWidth 8).toNat
  rw [BitVec.signExtend_eq_setWidth_of_le _ (by decide), BitVec.ofNat_toNat]
  have e2 : x.toBitVec >>> (((nI (8 * k)).toInt64.toUInt64 &&& Int64.toUInt64 63).toBitVec % 64#64) = x.toBitVec >>> (8 * k) := by
    show x.toBitVec >>> (((nI (8 * k)).toInt64.toUInt64 &&& Int64.toUInt64 63).toBitVec % 64#64).toNat = _
    rw [BitVec.toNat_umod]
    congr 1
  rw [e2]
  apply BitVec.eq_of_getLsbD_eq
  intro i hi
  have h255 : (255#32).getLsbD i = decide (i < 8) := by
    revert hi
    revert i
    decide
  rw [BitVec.getLsbD_and, h255, BitVec.getLsbD_setWidth, BitVec.getLsbD_setWidth, BitVec.getLsbD_setWidth, decide_eq_true hi, Bool.true_and, Bool.true_and, Bool.and_comm]
theorem c_byteAt {i : Nat} (hi : i < 131072) : Di d 123 [.ref 56, .int (nI i)] σ (fun r σ' => r = bI (by8 (σ.2.1 58 (i / 8)) (i % 8)) ∧ σ' = σ) := by
  have e1 : nI i >>> ((3 : Int32) &&& 31) = nI (i / 8) := pk_shrN (by omega) _ 3 (by decide)
  have e2 : nI i &&& (7 : Int32) = nI (i % 8) := pk_andN (by omega) 3 (by decide)
  have e3 : nI (i % 8) <<< ((3 : Int32) &&& 31) = nI (8 * (i % 8)) := by
    rw [pk_shlN _ 3 (by decide) (by omega)]
    congr 1
    omega
  refine S_Machine_byteAt ?_
  rw [e1, e2, e3, nI_clamp (n := i / 8) (by omega)]
  exact ⟨vp_in_nI (by omega) (by decide), rfl, by8_X _ (Nat.mod_lt _ (by decide)), rfl⟩
theorem op_memory (hK : KN σ) (hJ : J σ) (a0 : Int32) : Ci (d + 1) 140 [.ref 0, .int a0] σ (fun r σ1 => Ci (d + 1) 322 [.ref 103, .int a0] σ1 (fun r2 σ2 => r = r2 ∧ J σ2)) := by
  rcases hK with ⟨h1, h2, -⟩ | ⟨t, n, m, b, h1, h2, hb, h37, hok, hY, -, hM, -, -, -, ⟨p, mm, hV⟩, -⟩
  · exact S_X_memory ⟨fun _ => S_M_memory ⟨fun _ => ⟨rfl, hJ⟩, fun z => absurd h2 z⟩, fun z => absurd h1 z⟩
  have n1 : ¬ σ.1 0 5 = 0 := by rw [h1]; decide
  have n2 : ¬ σ.1 103 39 = 0 := by rw [h2]; decide
  obtain ⟨hp, q1, q2, q3, -⟩ := hV
  have e62 : (65536 : Int32) * (σ.1 103 62) = nI (65536 * p) := by rw [q2, show (65536 : Int32) = nI 65536 from rfl, nI_mul]
  have e564 : (σ.1 56 4) * (65536 : Int32) = nI (65536 * p) := by rw [q1, show (65536 : Int32) = nI 65536 from rfl, nI_mul, Nat.mul_comm]
  have ref : ∀ v : Int32, ((∀ k, k < 65536 * p → a0 ≠ nI k) → v = -1) → (∀ k, k < 65536 * p → a0 = nI k → v = σ.1 148 k) → Ci (d + 1) 322 [.ref 103, .int a0] σ (fun r2 σ2 => v = r2 ∧ J σ2) := fun v k1 k2 => by
    refine S_M_memory ⟨fun z => absurd z n2, fun _ => ?_⟩
    rw [e62]
    refine (m_isIn (by omega)).mono fun x σ1 hx => ?_
    obtain ⟨r, rfl, rfl, hr⟩ := Qi_s hx
    rcases hr with ⟨rfl, hr⟩ | ⟨k, hk, rfl, rfl⟩
    · exact ⟨fun _ => ⟨k1 hr, hJ⟩, fun z => absurd rfl z⟩
    · refine ⟨fun z => absurd z (by decide), fun _ => ⟨vp_in_nI (by omega) (by decide), ?_, hJ⟩⟩
      rw [nI_clamp (by omega)]
      exact k2 k hk rfl
  refine S_X_memory ⟨fun z => absurd z n1, fun _ => ⟨fun z => ?_, fun z => ?_⟩⟩
  · refine ref _ (fun _ => rfl) fun k hk h => ?_
    rw [h] at z
    exact absurd z (nI_pos (by omega))
  · obtain ⟨k, hk, rfl⟩ := nI_of z
    refine S_Machine_bytes (Q := Qi _) ⟨rfl, ?_⟩
    rw [e564]
    show (_ → _) ∧ (_ → _)
    simp only [sW_id]
    refine pk_lt k (65536 * p) (fun w => ?_) fun w => ?_
    · refine (c_byteAt (by omega)).mono fun x σ1 hx => ?_
      obtain ⟨r, rfl, e, rfl, rfl⟩ := Qi_s hx
      refine ⟨rfl, ?_⟩
      simp only [sW_id]
      refine ref _ (fun h => absurd rfl (h k w)) fun j hj h => ?_
      have := (nI_eq hk (by omega)).mp h
      subst this
      obtain ⟨a1, a2⟩ := q3 k (by omega)
      rw [a1, a2]
    · refine ref _ (fun _ => rfl) fun j hj h => ?_
      have := (nI_eq hk (by omega)).mp h
      omega
end LOOKS
