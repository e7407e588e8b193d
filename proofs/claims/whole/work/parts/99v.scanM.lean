/-! THE REFERENCE reads a TOKEN -/
def mI (c : Nat) : Int32 := if c = 256 then -1 else nI c
def PTm (t : Nat → UInt8) (n : Nat) (σ : fkS) : Prop := σ.1 103 79 = nI n ∧ (∀ k, k < n → σ.1 154 k = bI (t k)) ∧ n ≤ 4000
theorem PTm.fr {t : Nat → UInt8} {n : Nat} {σ σ' : fkS} {S : Nat → Nat → Bool} (h : PTm t n σ) (hf : Fr S σ σ') (h1 : ∀ j, S 154 j = false) (h2 : S 103 79 = false) : PTm t n σ' := by
  obtain ⟨a1, a2, a3⟩ := h
  exact ⟨(hf _ _ h2).1.trans a1, fun k hk => (hf _ _ (h1 k)).1.trans (a2 k hk), a3⟩
def fkMS (c j : Nat) : Bool := Nat.beq c 103 && (Nat.beq j 80 || Nat.beq j 82 || Nat.beq j 83 || Nat.beq j 84 || Nat.beq j 85)
theorem mI_eq {c e : Nat} (hc : c ≤ 256) (he : e < 256) : mI c = nI e ↔ c = e := by
  unfold mI
  by_cases h : c = 256
  · rw [if_pos h]
    constructor
    · intro z
      have : (-1 : Int32) < nI e := by
        have := nI_pos (n := e) (by omega)
        exact Int32.lt_of_lt_of_le (by decide) (Int32.not_lt.mp this)
      rw [z] at this
      exact absurd this Int32.lt_irrefl
    · intro z; omega
  · rw [if_neg h]
    exact nI_eq (by omega) (by omega)
theorem mI_pos {c : Nat} (hc : c ≤ 256) : 0 ≤ mI c ↔ c ≠ 256 := by
  unfold mI
  by_cases h : c = 256
  · rw [if_pos h]
    exact ⟨fun z => absurd z (by decide), fun z => absurd h z⟩
  · rw [if_neg h]
    exact ⟨fun _ => h, fun _ => Int32.not_lt.mp (nI_pos (by omega))⟩
theorem tbt_le (t : Nat → UInt8) (n i : Nat) : tbt t n i ≤ 256 := by
  unfold tbt
  have := (t i).toNat_lt
  split <;> omega
theorem m_byte {d n i : Nat} {t : Nat → UInt8} {σ : fkS} (h : PTm t n σ) (hi : i < 2 ^ 31) : Ci d 326 [.ref 103, .int (nI i)] σ (fun x s => s = σ ∧ x = mI (tbt t n i)) := by
  obtain ⟨a1, a2, a3⟩ := h
  refine S_M_byteAt ?_
  rw [a1]
  refine ⟨fun z => ⟨rfl, ?_⟩, fun z => ?_⟩
  · unfold tbt mI
    rw [if_neg (fun c => nI_ge c (by omega) z)]
    rfl
  · have c : i < n := by
      rcases Nat.lt_or_ge i n with c | c
      · exact c
      · exact absurd (nI_le c hi) z
    refine ⟨vp_in_nI (by omega) (by omega), rfl, ?_⟩
    have := (t i).toNat_lt
    rw [nI_clamp hi, a2 i c]
    unfold tbt mI
    rw [if_pos c, if_neg (by omega)]
    rfl
theorem m_letter {d c : Nat} {σ : fkS} (hc : c ≤ 256) : Ci d 327 [.int (mI c)] σ (fun x s => s = σ ∧ x = if cL c then 1 else 0) := by
  have key : (mI c < 97 ↔ ¬ (97 ≤ c ∧ c ≠ 256)) ∧ (122 < mI c ↔ 122 < c ∧ c ≠ 256) := by
    unfold mI
    by_cases h : c = 256
    · rw [if_pos h]
      exact ⟨⟨fun _ z => z.2 h, fun _ => by decide⟩, ⟨fun z => absurd z (by decide), fun z => absurd h z.2⟩⟩
    · rw [if_neg h]
      refine ⟨⟨fun z q => ?_, fun z => nI_lt (b := 97) (by omega) (by decide)⟩, ⟨fun z => ⟨?_, h⟩, fun z => nI_lt (a := 122) z.1 (by omega)⟩⟩
      · exact nI_nlt (b := 97) q.1 (by omega) z
      · rcases Nat.lt_or_ge 122 c with q | q
        · exact q
        · exact absurd z (nI_nlt (a := 122) q (by decide))
  refine S_M_isLetter ⟨fun z => ⟨rfl, ?_⟩, fun z => ⟨fun z2 => ⟨rfl, ?_⟩, fun z2 => ⟨rfl, ?_⟩⟩⟩
  · have e : cL c = false := by have := key.1.mp z; unfold cL; simp; omega
    rw [e]; rfl
  · have e : cL c = false := by have := key.2.mp z2; unfold cL; simp; omega
    rw [e]; rfl
  · have e : cL c = true := by
      have q1 : 97 ≤ c ∧ c ≠ 256 := Classical.byContradiction fun q => z (key.1.mpr q)
      have q2 : ¬ (122 < c ∧ c ≠ 256) := fun q => z2 (key.2.mpr q)
      unfold cL; simp; omega
    rw [e]; rfl
theorem m_digit {d c : Nat} {σ : fkS} (hc : c ≤ 256) : Ci d 328 [.int (mI c)] σ (fun x s => s = σ ∧ x = if cD c then 1 else 0) := by
  have key : (mI c < 48 ↔ ¬ (48 ≤ c ∧ c ≠ 256)) ∧ (57 < mI c ↔ 57 < c ∧ c ≠ 256) := by
    unfold mI
    by_cases h : c = 256
    · rw [if_pos h]
      exact ⟨⟨fun _ z => z.2 h, fun _ => by decide⟩, ⟨fun z => absurd z (by decide), fun z => absurd h z.2⟩⟩
    · rw [if_neg h]
      refine ⟨⟨fun z q => ?_, fun z => nI_lt (b := 48) (by omega) (by decide)⟩, ⟨fun z => ⟨?_, h⟩, fun z => nI_lt (a := 57) z.1 (by omega)⟩⟩
      · exact nI_nlt (b := 48) q.1 (by omega) z
      · rcases Nat.lt_or_ge 57 c with q | q
        · exact q
        · exact absurd z (nI_nlt (a := 57) q (by decide))
  refine S_M_isDigit ⟨fun z => ⟨rfl, ?_⟩, fun z => ⟨fun z2 => ⟨rfl, ?_⟩, fun z2 => ⟨rfl, ?_⟩⟩⟩
  · have e : cD c = false := by have := key.1.mp z; unfold cD; simp; omega
    rw [e]; rfl
  · have e : cD c = false := by have := key.2.mp z2; unfold cD; simp; omega
    rw [e]; rfl
  · have e : cD c = true := by
      have q1 : 48 ≤ c ∧ c ≠ 256 := Classical.byContradiction fun q => z (key.1.mpr q)
      have q2 : ¬ (57 < c ∧ c ≠ 256) := fun q => z2 (key.2.mpr q)
      unfold cD; simp; omega
    rw [e]; rfl
