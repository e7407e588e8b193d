/-! READING within a larger end gives the same -/
theorem nN_mono {t : Nat → UInt8} {e e2 p q B : Nat} (h : nN t e p = .inl (B, q)) (he : e ≤ e2) : nN t e2 p = .inl (B, q) := by
  obtain ⟨-, hB, hq, hp⟩ := nN_l h
  unfold nN
  rw [if_pos (by omega), hB, hq]
theorem u32_mono {t : Nat → UInt8} {e e2 : Nat} (he : e ≤ e2) : ∀ (f p : Nat) (acc v : Int64) (q : Nat), u32 t e f p acc = some (v, q) → u32 t e2 f p acc = some (v, q)
  | 0, _, _, _, _, h => by cases h
  | f + 1, p, acc, v, q, h => by
    rw [u32] at h ⊢
    by_cases hp : p < e
    · rw [if_pos hp] at h
      rw [if_pos (show p < e2 by omega)]
      by_cases h1 : f = 0 ∧ 16 ≤ (t p).toNat
      · rw [if_pos h1] at h
        cases h
      · rw [if_neg h1] at h ⊢
        by_cases h2 : 128 ≤ (t p).toNat
        · rw [if_pos h2] at h ⊢
          exact u32_mono he f _ _ _ _ h
        · rw [if_neg h2] at h ⊢
          exact h
    · rw [if_neg hp] at h
      cases h
theorem rU_mono {t : Nat → UInt8} {e e2 p q : Nat} {v : Int64} (he : e ≤ e2) (h : rU t e p = .inl (v, q)) : rU t e2 p = .inl (v, q) := by
  unfold rU at h ⊢
  cases hu : u32 t e 5 p 0 with
  | none =>
    rw [hu] at h
    cases h
  | some x =>
    rw [hu] at h
    have hx : x = (v, q) := Sum.inl.inj h
    rw [u32_mono he 5 p 0 x.1 x.2 hu]
    rw [hx]
theorem nU_mono {t : Nat → UInt8} {e e2 p q B : Nat} (he : e ≤ e2) (h : nU t e p = .inl (B, q)) : nU t e2 p = .inl (B, q) := by
  unfold nU at h ⊢
  cases hr : rU t e p with
  | inr x =>
    rw [hr] at h
    cases h
  | inl x =>
    obtain ⟨v, q1⟩ := x
    rw [hr] at h
    rw [rU_mono he hr]
    exact h
theorem nV_mono {t : Nat → UInt8} {e e2 p q B : Nat} (he : e ≤ e2) (h : nV t e p = .inl (B, q)) : nV t e2 p = .inl (B, q) := by
  unfold nV at h ⊢
  obtain ⟨B1, q1, h1, h⟩ := bR_inl h
  rw [nU_mono he h1]
  exact h
theorem rX_mono {v : Int32} {t : Nat → UInt8} {e e2 p q : Nat} {u : Unit} (he : e ≤ e2) (h : rX v t e p = .inl (u, q)) : rX v t e2 p = .inl (u, q) := by
  unfold rX at h ⊢
  by_cases hp : p < e ∧ bI (t p) = v
  · rw [if_pos hp] at h
    rw [if_pos (show p < e2 ∧ bI (t p) = v from ⟨by omega, hp.2⟩)]
    exact h
  · rw [if_neg hp] at h
    cases h
