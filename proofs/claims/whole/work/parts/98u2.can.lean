/-! AN i32 IS KEPT WITH ITS SIGN: what a constant of 32 bits is like -/
def c32 (v : Int64) : Prop := v = v.toInt32.toInt64
theorem c32_of {v : Int64} (h : ∀ i, 31 ≤ i → i < 64 → v.toBitVec.getLsbD i = v.toBitVec.getLsbD 31) : c32 v := by
  unfold c32
  apply Int64.toBitVec_inj.mp
  show v.toBitVec = (v.toBitVec.signExtend 32).signExtend 64
  rw [BitVec.signExtend_eq_setWidth_of_le v.toBitVec (by decide)]
  apply BitVec.eq_of_getLsbD_eq
  intro i hi
  rw [BitVec.getLsbD_signExtend, BitVec.msb_eq_getLsbD_last, BitVec.getLsbD_setWidth, BitVec.getLsbD_setWidth]
  by_cases h2 : i < 32
  · simp [hi, h2]
  · rw [h i (by omega) hi]
    simp [hi, h2]
theorem c32_i (a : Int32) : c32 a.toInt64 := by
  unfold c32
  rw [Int32.toInt32_toInt64]
theorem ext_bit {V : BitVec 64} {m i : Nat} (hm0 : 0 < m) (hm : m ≤ 63) (hi : i < 64) : ((V <<< (64 - m)).sshiftRight (64 - m)).getLsbD i = if i < m then V.getLsbD i else V.getLsbD (m - 1) := by
  have hmsb : (V <<< (64 - m)).msb = V.getLsbD (m - 1) := by
    rw [BitVec.msb_eq_getLsbD_last, BitVec.getLsbD_shiftLeft]
    have h1 : ¬ 63 < 64 - m := by omega
    have h2 : 63 - (64 - m) = m - 1 := by omega
    simp [h1, h2]
  rw [BitVec.getLsbD_sshiftRight, hmsb]
  have h3 : ¬ 64 ≤ i := by omega
  by_cases h : i < m
  · have h4 : 64 - m + i < 64 := by omega
    rw [if_pos h4, BitVec.getLsbD_shiftLeft]
    have h5 : ¬ 64 - m + i < 64 - m := by omega
    have h6 : 64 - m + i - (64 - m) = i := by omega
    simp [h3, h4, h5, h6, h]
  · have h4 : ¬ 64 - m + i < 64 := by omega
    rw [if_neg h4]
    simp [h3, h]
theorem sLk_bits {b : Nat} (hb : b < 128) (h : sLk true b = true) : b.testBit 3 = b.testBit 6 ∧ b.testBit 4 = b.testBit 6 ∧ b.testBit 5 = b.testBit 6 := by
  have key : ∀ b : Fin 128, sLk true b.val = true → b.val.testBit 3 = b.val.testBit 6 ∧ b.val.testBit 4 = b.val.testBit 6 ∧ b.val.testBit 5 = b.val.testBit 6 := by decide +kernel
  exact key ⟨b, hb⟩ h
theorem sEx_can {A k : Nat} {b : UInt8} (hk : k ≤ 4) (hb : b.toNat < 128) (hA : A < 2 ^ (7 * k)) (hl : k = 4 → sLk true b.toNat = true) : c32 (sExX (u7 (lN A) b k) b k) := by
  rw [sEx_eq (by omega) hb hA]
  have hm : b.toNat % 128 = b.toNat := Nat.mod_eq_of_lt hb
  have eu : u7 (lN A) b k = lN (A + b.toNat * 2 ^ (7 * k)) := by rw [u7_nat9 (by omega) hA, hm]
  have hU : A + b.toNat * 2 ^ (7 * k) < 2 ^ (7 * (k + 1)) := u7_next hb hA
  rw [eu]
  have e8 : (7 : Int32) * (nI k + (1 : Int32)) = nI (7 * k + 7) := by rw [show nI k + (1 : Int32) = nI (k + 1) from nI_1 k, show (7 : Int32) = nI 7 from rfl, nI_mul]; congr 1
  have h2 : nI (7 * k + 7) < (64 : Int32) := nI_lt (b := 64) (by omega) (by decide)
  have e9 : (64 : Int32) - nI (7 * k + 7) = nI (64 - (7 * k + 7)) := nI_sub (a := 64) (by omega)
  unfold sExM
  rw [e8, if_pos h2, e9]
  have hT : ∀ i, (lN (A + b.toNat * 2 ^ (7 * k))).toBitVec.getLsbD i = (decide (i < 64) && (A + b.toNat * 2 ^ (7 * k)).testBit i) := fun i => by
    show (BitVec.ofNat 64 _).getLsbD i = _
    rw [BitVec.getLsbD_ofNat]
  refine c32_of fun i hi hi2 => ?_
  rw [fk_lshr_nat (by omega), fk_lshl_nat (by omega), ext_bit (by omega) (by omega) hi2, ext_bit (by omega) (by omega) (by decide)]
  by_cases h4 : k = 4
  · subst h4
    obtain ⟨l3, l4, l5⟩ := sLk_bits hb (hl rfl)
    have hbit : ∀ j, 28 ≤ j → j < 64 → (lN (A + b.toNat * 2 ^ (7 * 4))).toBitVec.getLsbD j = b.toNat.testBit (j - 28) := fun j h1 h2 => by
      rw [hT, testBit_add hA (by omega), decide_eq_true h2, Bool.true_and]
    rw [if_pos (show 31 < 7 * 4 + 7 by decide), hbit 31 (by decide) (by decide), hbit (7 * 4 + 7 - 1) (by decide) (by decide)]
    show _ = b.toNat.testBit 3
    rw [l3]
    split
    next hlt =>
      rw [hbit i (by omega) hi2]
      have : i = 31 ∨ i = 32 ∨ i = 33 ∨ i = 34 := by omega
      rcases this with rfl | rfl | rfl | rfl
      · exact l3
      · exact l4
      · exact l5
      · rfl
    next => rfl
  · rw [if_neg (by omega), if_neg (by omega)]
theorem sg_can {t : Nat → UInt8} {e : Nat} : ∀ (f k p A : Nat) (v : Int64) (q : Nat), f + k = 5 → A < 2 ^ (7 * k) → sg true t e f p (lN A) = some (v, q) → c32 v
  | 0, _, _, _, _, _, _, _, h => by cases h
  | f + 1, k, p, A, v, q, hk, hA, h => by
    rw [sg] at h
    have e5 : sMo true - (f + 1) = k := by show 5 - (f + 1) = k; omega
    rw [e5] at h
    split at h
    · split at h
      next hz h128 =>
        rw [u7_nat9 (by omega) hA] at h
        exact sg_can f (k + 1) _ _ _ _ (by omega) (u7_next (Nat.mod_lt _ (by decide)) hA) h
      next hz h128 =>
        split at h
        · cases h
        next hl =>
          have h3 := congrArg Prod.fst (Option.some.inj h)
          have h4 : sExX (u7 (lN A) (t p) k) (t p) k = v := h3
          rw [← h4]
          refine sEx_can (by omega) (by omega) hA fun hk4 => ?_
          cases hh : sLk true (t p).toNat
          · exact absurd ⟨by omega, hh⟩ hl
          · rfl
    · cases h
theorem rG_can {t : Nat → UInt8} {e p q : Nat} {v : Int64} (h : rG true t e p = .inl (v, q)) : c32 v := by
  unfold rG at h
  split at h
  next x hx =>
    have h2 := Sum.inl.inj h
    subst h2
    exact sg_can 5 0 p 0 v q rfl (by decide) hx
  · cases h
/-- GLOBALS of 32 bits -/
def gC (m : Md) : Prop := ∀ x ∈ mdG m, x.2.2.1 = 65 → c32 x.2.2.2
theorem pGl_can {t : Nat → UInt8} {e p q : Nat} {x : Gl} (h : pGl t e p = .inl (x, q)) : x.2.2.1 = 65 → c32 x.2.2.2 := by
  unfold pGl at h
  obtain ⟨ty, p1, h1, h⟩ := bR_inl h
  obtain ⟨st, p2, h2, h⟩ := bR_inl h
  split at h
  · unfold pGl3 at h
    obtain ⟨c, p3, h3, h⟩ := bR_inl h
    cases h
    intro h65
    unfold pCo at h3
    obtain ⟨op, q1, g1, h3⟩ := bR_inl h3
    obtain ⟨v, q2, g2, h3⟩ := bR_inl h3
    have h4 := congrArg Prod.fst (Sum.inl.inj h3)
    have h5 : (op, v) = c := h4
    subst h5
    have h65 : op = 65 := h65
    subst h65
    unfold pCv at g2
    obtain ⟨v2, q4, g4, g2⟩ := bR_inl g2
    obtain ⟨_, q5, g5, g2⟩ := bR_inl g2
    have h6 : v2 = v := congrArg Prod.fst (Sum.inl.inj g2)
    subst h6
    unfold pCn at g4
    rw [if_neg (by decide)] at g4
    exact rG_can g4
  · cases h
theorem pSe_G {t : Nat → UInt8} {m m2 : Md} {id q e q2 : Nat} (h : pSe t m id q e = .inl (m2, q2)) (hl : gC m) : gC m2 := by
  unfold pSe at h
  split at h
  · obtain ⟨_, _, _, h⟩ := bR_inl h
    cases h
    exact hl
  split at h
  · obtain ⟨l, q1, hv, h⟩ := bR_inl h
    cases h
    exact hl
  split at h
  · obtain ⟨l, q1, hv, h⟩ := bR_inl h
    cases h
    exact hl
  split at h
  · obtain ⟨l, q1, hv, h⟩ := bR_inl h
    cases h
    exact hl
  split at h
  · obtain ⟨l, q1, hv, h⟩ := bR_inl h
    cases h
    exact hl
  split at h
  · obtain ⟨l, q1, hv, h⟩ := bR_inl h
    cases h
    exact pVc_all (fun _ _ _ h => pGl_can h) hv
  split at h
  · obtain ⟨l, q1, hv, h⟩ := bR_inl h
    cases h
    exact hl
  split at h
  · obtain ⟨l, q1, hv, h⟩ := bR_inl h
    cases h
    exact hl
  obtain ⟨x, q1, hv, h⟩ := bR_inl h
  cases h
  exact hl
theorem pMd_G {t : Nat → UInt8} {n : Nat} : ∀ (f last p : Nat) (m m2 : Md) (q : Nat), pMd t n f last m p = .inl (m2, q) → gC m → gC m2
  | 0, _, _, _, _, _, h, _ => by cases h
  | f + 1, last, p, m, m2, q, h, hm => by
    rw [pMd] at h
    split at h
    · cases h
      exact hm
    · obtain ⟨x, q1, h1, h⟩ := bR_inl h
      obtain ⟨m3, q3, h3, h⟩ := bR_inl h
      split at h
      · cases h
      · exact pMd_G f _ _ _ _ _ h (pSe_G h3 hm)
theorem pMo_can {t : Nat → UInt8} {n q : Nat} {m : Md} (h : pMo t n = .inl (m, q)) : gC m := by
  unfold pMo at h
  obtain ⟨_, p, h1, h⟩ := bR_inl h
  obtain ⟨m1, p1, h2, h⟩ := bR_inl h
  have := pMd_G _ _ _ _ _ _ h2 fun x hx => by cases hx
  unfold pEnd at h
  split at h
  · cases h
    exact this
  · cases h
