/-! WHAT STANDS BEHIND AN INSTRUCTION'S FIRST BYTE, by its row -/
def isNum (op : Nat) : Prop := (69 ≤ op ∧ op ≤ 90) ∨ (103 ≤ op ∧ op ≤ 138) ∨ op = 167 ∨ op = 172 ∨ op = 173
def noOp (op : Nat) : Prop := op = 0 ∨ op = 1 ∨ op = 5 ∨ op = 11 ∨ op = 15 ∨ op = 26 ∨ op = 27 ∨ isNum op
def lgl (op : Nat) : Prop := noOp op ∨ (2 ≤ op ∧ op ≤ 4) ∨ op = 12 ∨ op = 13 ∨ op = 14 ∨ op = 16 ∨ op = 17 ∨ (32 ≤ op ∧ op ≤ 36) ∨ memL op ∨ (63 ≤ op ∧ op ≤ 66)
def opsR (t : Nat → UInt8) (n p : Nat) (I : In) (q : Nat) : Prop :=
  ((iOp I = 12 ∨ iOp I = 13) → ∃ B, nU t n (p + 1) = .inl (B, q) ∧ iL I = [B]) ∧
  ((iOp I = 16 ∨ (32 ≤ iOp I ∧ iOp I ≤ 36)) → nU t n (p + 1) = .inl (iB I, q)) ∧
  (iOp I = 17 → ∃ q1, nU t n (p + 1) = .inl (iB I, q1) ∧ rX 0 t n q1 = .inl ((), q)) ∧
  ((iOp I = 63 ∨ iOp I = 64) → rX 0 t n (p + 1) = .inl ((), q)) ∧
  ((iOp I = 65 ∨ iOp I = 66) → rG (decide (iOp I = 65)) t n (p + 1) = .inl (iA I, q)) ∧
  (memL (iOp I) → ∃ al o q1, nU t n (p + 1) = .inl (al, q1) ∧ nU t n q1 = .inl (o, q) ∧ iS I = min al 99 ∧ iA I = lN o) ∧
  (iOp I = 14 → ∃ q1, nV t n (p + 1) = .inl (iS I, q1) ∧ pFs t n (iS I + 1) q1 = .inl (iL I, q)) ∧
  ((2 ≤ iOp I ∧ iOp I ≤ 4) → q = p + 2 ∧ p + 1 < n ∧ iB I = if (t (p + 1)).toNat = 64 then 0 else (t (p + 1)).toNat) ∧
  (noOp (iOp I) → q = p + 1)
theorem alz_no {v : Nat} (hv : v < 256) (h : alz v = true) : v ≠ 5 ∧ v ≠ 11 ∧ (v = 0 ∨ v = 1 ∨ v = 15 ∨ v = 26 ∨ v = 27 ∨ (69 ≤ v ∧ v ≤ 90) ∨ (103 ≤ v ∧ v ≤ 138) ∨ v = 167 ∨ v = 172 ∨ v = 173) := by
  have : ∀ v : Fin 256, alz v.val = true → v.val ≠ 5 ∧ v.val ≠ 11 ∧ (v.val = 0 ∨ v.val = 1 ∨ v.val = 15 ∨ v.val = 26 ∨ v.val = 27 ∨ (69 ≤ v.val ∧ v.val ≤ 90) ∨ (103 ≤ v.val ∧ v.val ≤ 138) ∨ v.val = 167 ∨ v.val = 172 ∨ v.val = 173) := by decide +kernel
  exact this ⟨v, hv⟩ h
theorem alz_yes {v : Nat} (hv : v < 256) (h : ¬ alz v = true) : ¬ (v = 0 ∨ v = 1 ∨ v = 15 ∨ v = 26 ∨ v = 27 ∨ (69 ≤ v ∧ v ≤ 90) ∨ (103 ≤ v ∧ v ≤ 138) ∨ v = 167 ∨ v = 172 ∨ v = 173) := by
  have : ∀ v : Fin 256, ¬ alz v.val = true → ¬ (v.val = 0 ∨ v.val = 1 ∨ v.val = 15 ∨ v.val = 26 ∨ v.val = 27 ∨ (69 ≤ v.val ∧ v.val ≤ 90) ∨ (103 ≤ v.val ∧ v.val ≤ 138) ∨ v.val = 167 ∨ v.val = 172 ∨ v.val = 173) := by decide +kernel
  exact this ⟨v, hv⟩ h
theorem rfz_mem {v : Nat} (hv : v < 256) (h : ¬ rfz v = true) : v ≠ 42 ∧ v ≠ 43 ∧ v ≠ 56 ∧ v ≠ 57 := by
  have : ∀ v : Fin 256, ¬ rfz v.val = true → v.val ≠ 42 ∧ v.val ≠ 43 ∧ v.val ≠ 56 ∧ v.val ≠ 57 := by decide +kernel
  exact this ⟨v, hv⟩ h
theorem iB_of {p op B : Nat} (hB : B < 2 ^ 32) : iB (mkI p op ((nI B).toInt64, 0, [])) = B := by
  show ((nI B).toInt64).toInt32.toBitVec.toNat = B
  rw [Int32.toInt32_toInt64, pk_tn hB]
theorem iB_of2 {p op B : Nat} (hB : B < 2 ^ 31) : iB (mkI p op (lN B, 0, [])) = B := by
  show (lN B).toInt32.toBitVec.toNat = B
  rw [lN_i32, pk_tn (by omega)]
theorem pBt_l {t : Nat → UInt8} {e p q B : Nat} (h : pBt t e p = .inl (B, q)) : q = p + 1 ∧ p < e ∧ B < 200 ∧ B = if (t p).toNat = 64 then 0 else (t p).toNat := by
  unfold pBt at h
  split at h
  next hz =>
    cases h
    exact ⟨rfl, hz.1, by decide, (if_pos hz.2).symm⟩
  next hz =>
    obtain ⟨-, a1, a2, a3, a4⟩ := nT_l h
    have : (t p).toNat ≠ 64 := fun y => hz ⟨a4, y⟩
    exact ⟨a3, a4, a1.lt, by rw [if_neg this]; exact a2⟩
theorem pOs_ops {t : Nat → UInt8} {n p op q : Nat} {o : Od} (ho : op < 256) (hn : ¬ op = 11) (hn5 : ¬ op = 5) (h24 : ¬ (2 ≤ op ∧ op ≤ 4)) (h : pOs t n p op (p + 1) = .inl (o, q)) : opsR t n p (mkI p op o) q ∧ lgl op := by
  have e1 : iOp (mkI p op o) = op := rfl
  have e2 : iA (mkI p op o) = o.1 := rfl
  have e3 : iS (mkI p op o) = o.2.1 := rfl
  have e4 : iL (mkI p op o) = o.2.2 := rfl
  unfold opsR lgl noOp isNum memL
  rw [e1, e2, e3, e4]
  unfold pOs at h
  by_cases ha : alz op = true
  · have a1 := alz_no ho ha
    rw [if_pos ha] at h
    cases h
    exact ⟨⟨fun z => absurd z (by omega), fun z => absurd z (by omega), fun z => absurd z (by omega), fun z => absurd z (by omega), fun z => absurd z (by omega), fun z => absurd z (by omega), fun z => absurd z (by omega), fun z => absurd z h24, fun _ => rfl⟩, .inl (by omega)⟩
  have a1 := alz_yes ho ha
  rw [if_neg ha] at h
  by_cases hr : rfz op = true
  · rw [if_pos hr] at h
    cases h
  have a2 := rfz_mem ho hr
  rw [if_neg hr] at h
  by_cases h14 : op = 14
  · rw [if_pos h14] at h
    unfold pO14 at h
    obtain ⟨m, q1, h1, h⟩ := bR_inl h
    obtain ⟨l, q3, h2, h⟩ := bR_inl h
    cases h
    exact ⟨⟨fun z => absurd z (by omega), fun z => absurd z (by omega), fun z => absurd z (by omega), fun z => absurd z (by omega), fun z => absurd z (by omega), fun z => absurd z (by omega), fun _ => ⟨q1, h1, h2⟩, fun z => absurd z h24, fun z => absurd z (by omega)⟩, by omega⟩
  rw [if_neg h14] at h
  unfold pOn at h
  by_cases c4 : op = 12 ∨ op = 13
  · rw [if_pos c4] at h
    obtain ⟨B, q1, h1, h⟩ := bR_inl h
    cases h
    exact ⟨⟨fun _ => ⟨B, h1, rfl⟩, fun z => absurd z (by omega), fun z => absurd z (by omega), fun z => absurd z (by omega), fun z => absurd z (by omega), fun z => absurd z (by omega), fun z => absurd z (by omega), fun z => absurd z h24, fun z => absurd z (by omega)⟩, by omega⟩
  rw [if_neg c4] at h
  by_cases c5 : op = 16 ∨ (32 ≤ op ∧ op ≤ 36)
  · rw [if_pos c5] at h
    obtain ⟨B, q1, h1, h⟩ := bR_inl h
    cases h
    exact ⟨⟨fun z => absurd z (by omega), fun _ => by rw [iB_of (nU_l h1).2.1]; exact h1, fun z => absurd z (by omega), fun z => absurd z (by omega), fun z => absurd z (by omega), fun z => absurd z (by omega), fun z => absurd z (by omega), fun z => absurd z h24, fun z => absurd z (by omega)⟩, by omega⟩
  rw [if_neg c5] at h
  by_cases c6 : op = 17
  · rw [if_pos c6] at h
    unfold pO17 at h
    obtain ⟨B, q1, h1, h⟩ := bR_inl h
    obtain ⟨_, q3, h2, h⟩ := bR_inl h
    cases h
    exact ⟨⟨fun z => absurd z (by omega), fun z => absurd z (by omega), fun _ => ⟨q1, by rw [iB_of (nU_l h1).2.1]; exact h1, h2⟩, fun z => absurd z (by omega), fun z => absurd z (by omega), fun z => absurd z (by omega), fun z => absurd z (by omega), fun z => absurd z h24, fun z => absurd z (by omega)⟩, by omega⟩
  rw [if_neg c6] at h
  by_cases c7 : op = 63 ∨ op = 64
  · rw [if_pos c7] at h
    obtain ⟨_, q3, h2, h⟩ := bR_inl h
    cases h
    exact ⟨⟨fun z => absurd z (by omega), fun z => absurd z (by omega), fun z => absurd z (by omega), fun _ => h2, fun z => absurd z (by omega), fun z => absurd z (by omega), fun z => absurd z (by omega), fun z => absurd z h24, fun z => absurd z (by omega)⟩, by omega⟩
  rw [if_neg c7] at h
  by_cases c8 : op = 65 ∨ op = 66
  · rw [if_pos c8] at h
    obtain ⟨v, q3, h2, h⟩ := bR_inl h
    cases h
    exact ⟨⟨fun z => absurd z (by omega), fun z => absurd z (by omega), fun z => absurd z (by omega), fun z => absurd z (by omega), fun _ => h2, fun z => absurd z (by omega), fun z => absurd z (by omega), fun z => absurd z h24, fun z => absurd z (by omega)⟩, by omega⟩
  rw [if_neg c8] at h
  by_cases c9 : 40 ≤ op ∧ op ≤ 62
  · rw [if_pos c9] at h
    unfold pO40 at h
    obtain ⟨B, q1, h1, h⟩ := bR_inl h
    obtain ⟨f, q3, h2, h⟩ := bR_inl h
    cases h
    exact ⟨⟨fun z => absurd z (by omega), fun z => absurd z (by omega), fun z => absurd z (by omega), fun z => absurd z (by omega), fun z => absurd z (by omega), fun _ => ⟨B, f, q1, h1, h2, rfl, rfl⟩, fun z => absurd z (by omega), fun z => absurd z h24, fun z => absurd z (by omega)⟩, by omega⟩
  · rw [if_neg c9] at h
    cases h
/-- an INSTRUCTION that was read: what stands behind its first byte -/
theorem pI_ops {t : Nat → UInt8} {n p q : Nat} {C : List In} {I : In} (h : pI t n C p = .inl (I, q)) : opsR t n p I q ∧ lgl (iOp I) := by
  obtain ⟨a1, a2, a3, a4, a5, h2⟩ := pI_l h
  have h256 : iOp I < 256 := by
    rw [a2]
    exact (t p).toNat_lt
  generalize hop : iOp I = op at *
  have plain : ∀ I0 : In, I0 = mkI p op (0, 0, []) → (op = 5 ∨ op = 11) → q = p + 1 → opsR t n p I0 q ∧ lgl op := fun I0 e z y => by
    subst e
    have e1 : iOp (mkI p op (0, 0, [])) = op := rfl
    unfold opsR lgl noOp isNum memL
    rw [e1]
    exact ⟨⟨fun z => absurd z (by omega), fun z => absurd z (by omega), fun z => absurd z (by omega), fun z => absurd z (by omega), fun z => absurd z (by omega), fun z => absurd z (by omega), fun z => absurd z (by omega), fun z => absurd z (by omega), fun _ => y⟩, by omega⟩
  unfold pI2 at h2
  by_cases h11 : op = 11
  · rw [if_pos h11] at h2
    subst h11
    have h3 := Sum.inl.inj h2
    exact plain I (congrArg Prod.fst h3).symm (.inr rfl) (congrArg Prod.snd h3).symm
  rw [if_neg h11] at h2
  by_cases h5 : op = 5
  · rw [if_pos h5] at h2
    subst h5
    split at h2
    · split at h2
      · have h3 := Sum.inl.inj h2
        exact plain I (congrArg Prod.fst h3).symm (.inl rfl) (congrArg Prod.snd h3).symm
      · cases h2
    · cases h2
  rw [if_neg h5] at h2
  by_cases h24 : 2 ≤ op ∧ op ≤ 4
  · rw [if_pos h24] at h2
    split at h2
    · cases h2
    · obtain ⟨bt, q2, h3, h2⟩ := bR_inl h2
      have h4 := Sum.inl.inj h2
      have e1 : mkI p op (lN bt, 0, []) = I := congrArg Prod.fst h4
      have e2 : q2 = q := congrArg Prod.snd h4
      obtain ⟨b1, b2, b3, b4⟩ := pBt_l h3
      subst e1
      have e3 : iOp (mkI p op (lN bt, 0, [])) = op := rfl
      unfold opsR lgl noOp isNum memL
      rw [e3, iB_of2 (by omega)]
      exact ⟨⟨fun z => absurd z (by omega), fun z => absurd z (by omega), fun z => absurd z (by omega), fun z => absurd z (by omega), fun z => absurd z (by omega), fun z => absurd z (by omega), fun z => absurd z (by omega), fun _ => ⟨by omega, b2, b4⟩, fun z => absurd z (by omega)⟩, by omega⟩
  · rw [if_neg h24] at h2
    obtain ⟨o, q2, h3, h2⟩ := bR_inl h2
    have h4 := Sum.inl.inj h2
    have e1 : mkI p op o = I := congrArg Prod.fst h4
    have e2 : q2 = q := congrArg Prod.snd h4
    subst e1
    subst e2
    exact pOs_ops h256 h11 h5 h24 h3
