/-! AN UNSIGNED NUMBER IS SMALL -/
theorem b127 (b : UInt8) : bI b &&& (127 : Int32) = nI (b.toNat % 128) := by
  have key : ∀ x : BitVec 8, BitVec.ofNat 32 x.toNat &&& 127#32 = BitVec.ofNat 32 (x.toNat % 128) := by decide +kernel
  apply Int32.toBitVec_inj.mp
  rw [Int32.toBitVec_and]
  exact key b.toBitVec
theorem lshl_nat {m k : Nat} (hm : m < 128) (hk : k < 5) : fk_lshl (lN m) ((7 : Int32) * nI k) = lN (m * 2 ^ (7 * k)) := by
  have key : ∀ (m : Fin 128) (k : Fin 5), fk_lshl (lN m.val) ((7 : Int32) * nI k.val) = lN (m.val * 2 ^ (7 * k.val)) := by decide +kernel
  exact key ⟨m, hm⟩ ⟨k, hk⟩
theorem lor_nat {A m i : Nat} (hA : A < 2 ^ i) (hB : m * 2 ^ i < 2 ^ 63) (hA2 : A < 2 ^ 63) : (lN A ||| lN (m * 2 ^ i)) = lN (A + m * 2 ^ i) := by
  have e1 : A ||| m * 2 ^ i = A + m * 2 ^ i := by
    rw [← Nat.shiftLeft_eq, Nat.or_comm, ← Nat.shiftLeft_add_eq_or_of_lt hA, Nat.add_comm]
  apply Int64.toBitVec_inj.mp
  rw [Int64.toBitVec_or]
  show BitVec.ofNat 64 A ||| BitVec.ofNat 64 (m * 2 ^ i) = BitVec.ofNat 64 (A + m * 2 ^ i)
  apply BitVec.eq_of_toNat_eq
  rw [BitVec.toNat_or, BitVec.toNat_ofNat, BitVec.toNat_ofNat, BitVec.toNat_ofNat, Nat.mod_eq_of_lt (by omega), Nat.mod_eq_of_lt (by omega), Nat.mod_eq_of_lt (by omega), e1]
theorem u7_nat {A k : Nat} {b : UInt8} (hk : k < 5) (hA : A < 2 ^ (7 * k)) : u7 (lN A) b k = lN (A + (b.toNat % 128) * 2 ^ (7 * k)) := by
  unfold u7
  have hm : b.toNat % 128 < 128 := Nat.mod_lt _ (by decide)
  rw [b127, nI_l (by omega), lshl_nat hm hk]
  have h1 : (2 : Nat) ^ (7 * k) ≤ 2 ^ 28 := Nat.pow_le_pow_right (by decide) (by omega)
  refine lor_nat hA ?_ (by omega)
  calc b.toNat % 128 * 2 ^ (7 * k) ≤ 128 * 2 ^ 28 := Nat.mul_le_mul (by omega) h1
    _ < 2 ^ 63 := by decide
/-- what an unsigned number is: below 2^32 -/
theorem u32_nat {t : Nat → UInt8} {e : Nat} : ∀ (f k p A : Nat) (v : Int64) (q : Nat), k + f = 5 → A < 2 ^ (7 * k) → u32 t e f p (lN A) = some (v, q) → ∃ B, B < 2 ^ 32 ∧ v = lN B
  | 0, k, p, A, v, q, hk, hA, h => by cases h
  | f + 1, k, p, A, v, q, hk, hA, h => by
    have ek : 4 - f = k := by omega
    have hm : (t p).toNat % 128 < 128 := Nat.mod_lt _ (by decide)
    have hp7 : (2 : Nat) ^ (7 * (k + 1)) = 128 * 2 ^ (7 * k) := by
      rw [Nat.mul_add, Nat.pow_add]
      omega
    have hnx : A + (t p).toNat % 128 * 2 ^ (7 * k) < 2 ^ (7 * (k + 1)) := by
      rw [hp7]
      calc A + (t p).toNat % 128 * 2 ^ (7 * k) < 2 ^ (7 * k) + (t p).toNat % 128 * 2 ^ (7 * k) := by omega
        _ = (1 + (t p).toNat % 128) * 2 ^ (7 * k) := by rw [Nat.add_mul, Nat.one_mul]
        _ ≤ 128 * 2 ^ (7 * k) := Nat.mul_le_mul_right _ (by omega)
    rw [u32, ek, u7_nat (by omega) hA] at h
    split at h
    next hz =>
      split at h
      · cases h
      next hn =>
        split at h
        · exact u32_nat f (k + 1) (p + 1) _ v q (by omega) hnx h
        next h128 =>
          refine ⟨_, ?_, (congrArg Prod.fst (Option.some.inj h)).symm⟩
          by_cases hf : f = 0
          · have hk4 : k = 4 := by omega
            subst hk4
            have h16 : (t p).toNat < 16 := by
              refine Nat.not_le.mp fun y => hn ⟨hf, y⟩
            rw [Nat.mod_eq_of_lt (by omega)]
            have e1 : (2 : Nat) ^ (7 * 4) = 268435456 := by decide +kernel
            have e2 : (2 : Nat) ^ 32 = 4294967296 := by decide +kernel
            clear hp7 hnx
            rw [e1] at hA ⊢
            rw [e2]
            omega
          · have h3 : (2 : Nat) ^ (7 * (k + 1)) ≤ 2 ^ 28 := Nat.pow_le_pow_right (by decide) (by omega)
            exact Nat.lt_of_lt_of_le hnx (Nat.le_trans h3 (by decide))
    · cases h
theorem rU_nat {t : Nat → UInt8} {e p q : Nat} {v : Int64} (h : rU t e p = .inl (v, q)) : ∃ B, B < 2 ^ 32 ∧ v = lN B ∧ p < q ∧ q ≤ e := by
  unfold rU at h
  split at h
  next x hx =>
    have h2 : x = (v, q) := Sum.inl.inj h
    subst h2
    obtain ⟨B, h3, h4⟩ := u32_nat 5 0 p 0 v q rfl (by decide) hx
    exact ⟨B, h3, h4, u32_le _ _ _ _ _ hx⟩
  · cases h
