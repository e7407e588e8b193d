/-! WHERE THE INSTRUCTIONS STAND in the text -/
/-- the INSTRUCTIONS of each function were read where they stand, one behind another, from its body's place on -/
def rdA (t : Nat → UInt8) (n : Nat) (F : List Fi) (C : List In) : Prop := ∀ (k : Nat) (x : Fi), F[k]? = some x → ((∃ I, C[fiS x]? = some I ∧ I.1 = x.2.1) ∧ ∃ I, C[fiE x]? = some I ∧ iOp I = 11 ∧ sk C (fiE x) = []) ∧ ∀ (i : Nat) (I : In), fiS x ≤ i → i ≤ fiE x → C[i]? = some I → ∃ q, pI t n (C.take i) I.1 = .inl (I, q) ∧ ∀ I2, i < fiE x → C[i + 1]? = some I2 → I2.1 = q
theorem pBo_pre {t : Nat → UInt8} {e : Nat} : ∀ (f p : Nat) (C C2 : List In) (q : Nat), pBo t e f C p = .inl (C2, q) → ∃ D, C2 = C ++ D
  | 0, _, _, _, _, h => by cases h
  | f + 1, p, C, C2, q, h => by
    rw [pBo] at h
    obtain ⟨i, q1, h1, h⟩ := bR_inl h
    split at h
    · cases h
      exact ⟨[i], rfl⟩
    · obtain ⟨D, hD⟩ := pBo_pre f q1 _ _ _ h
      exact ⟨i :: D, by rw [hD, List.append_assoc]; rfl⟩
theorem pBo_r {t : Nat → UInt8} {e : Nat} : ∀ (f p : Nat) (C C2 : List In) (q : Nat), pBo t e f C p = .inl (C2, q) → ((∃ I, C2[C.length]? = some I ∧ I.1 = p) ∧ ∃ I, C2[C2.length - 1]? = some I ∧ iOp I = 11 ∧ sk C2 (C2.length - 1) = []) ∧ ∀ (i : Nat) (I : In), C.length ≤ i → C2[i]? = some I → ∃ q1, pI t e (C2.take i) I.1 = .inl (I, q1) ∧ ∀ I2, C2[i + 1]? = some I2 → I2.1 = q1
  | 0, _, _, _, _, h => by cases h
  | f + 1, p, C, C2, q, h => by
    have h0 := h
    rw [pBo] at h
    obtain ⟨i, q1, h1, h⟩ := bR_inl h
    have hip := (pI_l h1).1
    have first : ∀ D, C2 = C ++ (i :: D) → C2[C.length]? = some i ∧ C2.take C.length = C := fun D hD => by
      rw [hD]
      exact ⟨by simp, by simp⟩
    split at h
    next hz =>
      cases h
      obtain ⟨g1, g2⟩ := first [] rfl
      have e1 : (C ++ [i]).length - 1 = C.length := by rw [List.length_append, List.length_singleton]; omega
      refine ⟨⟨⟨i, g1, hip⟩, i, by rw [e1]; exact g1, hz.1, by rw [e1, sk_app (Nat.le_refl _)]; exact List.isEmpty_iff.mp hz.2⟩, fun k I hk hI => ?_⟩
      have hkl := get_lt hI
      rw [List.length_append, List.length_singleton] at hkl
      have : k = C.length := by omega
      subst this
      rw [g1] at hI
      cases hI
      refine ⟨q, by rw [g2, hip]; exact h1, fun I2 h2 => ?_⟩
      have := get_lt h2
      rw [List.length_append, List.length_singleton] at this
      omega
    · obtain ⟨D, hD⟩ := pBo_pre f q1 _ _ _ h
      obtain ⟨⟨⟨I1, a1, a2⟩, a4⟩, a3⟩ := pBo_r f q1 _ _ _ h
      rw [List.length_append, List.length_singleton] at a1 a3
      obtain ⟨g1, g2⟩ := first D (by rw [hD, List.append_assoc]; rfl)
      refine ⟨⟨⟨i, g1, hip⟩, a4⟩, fun k I hk hI => ?_⟩
      by_cases hkC : k = C.length
      · subst hkC
        rw [g1] at hI
        cases hI
        refine ⟨q1, by rw [g2, hip]; exact h1, fun I2 h2 => ?_⟩
        rw [a1] at h2
        cases h2
        exact a2
      · exact a3 k I (by omega) hI
theorem take_app {C D : List In} {i : Nat} (h : i ≤ C.length) : (C ++ D).take i = C.take i := List.take_append_of_le_length h
theorem pCds_r {t : Nat → UInt8} {n e : Nat} (he : e ≤ n) : ∀ (k : Nat) (F : List Fi) (C : List In) (p : Nat) (x : List Fi × List In) (q : Nat), pCds t e k F C p = .inl (x, q) → CK F C p → rdA t n F C → rdA t n x.1 x.2
  | 0, F, C, p, x, q, h, _, hr => by
    cases h
    exact hr
  | k + 1, F, C, p, x, q, h, hk, hr => by
    rw [pCds] at h
    obtain ⟨y, q1, h1, h⟩ := bR_inl h
    have hk1 : CK (F ++ [y.1]) y.2 q1 := pCds_f 1 F C p (F ++ [y.1], y.2) q1 (by rw [pCds, h1]; rfl) hk
    refine pCds_r he k _ _ _ _ _ h hk1 ?_
    unfold pCd at h1
    obtain ⟨B, p1, g1, h1⟩ := bR_inl h1
    have k1 := rZ_l2 g1
    unfold pCd2 at h1
    obtain ⟨m, p2, g2, h1⟩ := bR_inl h1
    obtain ⟨L, p3, g3, h1⟩ := bR_inl h1
    unfold pCd3 at h1
    obtain ⟨C2, p4, g4, h1⟩ := bR_inl h1
    obtain ⟨D, hD⟩ := pBo_pre _ _ _ _ _ g4
    obtain ⟨r1, r2⟩ := pBo_r _ _ _ _ _ g4
    split at h1
    · cases h1
    · cases h1
      intro j z hz
      rcases get_snoc hz with ⟨y1, -⟩ | ⟨-, rfl⟩
      · have hend : fiE z < C.length := (hk.2.2.1 j z y1).1.2.1
        obtain ⟨⟨⟨I0, s1, s2⟩, I9, s4, s5, s6⟩, s3⟩ := hr j z y1
        have hst := get_lt s1
        refine ⟨⟨⟨I0, by rw [hD, List.getElem?_append_left hst]; exact s1, s2⟩, I9, by rw [hD, List.getElem?_append_left hend]; exact s4, s5, by rw [hD, sk_app (by omega)]; exact s6⟩, fun i I hi hie hI => ?_⟩
        rw [hD, List.getElem?_append_left (by omega)] at hI
        obtain ⟨qq, u1, u2⟩ := s3 i I hi hie hI
        refine ⟨qq, by rw [hD, take_app (by omega)]; exact u1, fun I2 h2 hI2 => ?_⟩
        rw [hD, List.getElem?_append_left (by omega)] at hI2
        exact u2 I2 h2 hI2
      · refine ⟨r1, fun i I hi _ hI => ?_⟩
        obtain ⟨qq, u1, u2⟩ := r2 i I hi hI
        exact ⟨qq, pI_mono (agr.le (by omega)) u1, fun I2 _ => u2 I2⟩
def rdM (t : Nat → UInt8) (n : Nat) (m : Md) : Prop := rdA t n (mdC m).1 (mdC m).2
theorem rdA_nil {t : Nat → UInt8} {n : Nat} : rdA t n [] [] := fun k x hx => by cases hx
theorem pSe_R {t : Nat → UInt8} {n : Nat} {m m2 : Md} {id q e q2 : Nat} (he : e ≤ n) (h : pSe t m id q e = .inl (m2, q2)) (hl : rdM t n m) : rdM t n m2 := by
  unfold pSe at h
  split at h
  · obtain ⟨_, _, _, h⟩ := bR_inl h
    cases h
    exact hl
  split at h
  · obtain ⟨l, q1, hv, h⟩ := bR_inl h
    cases h
    exact hl
  split at h
  · obtain ⟨l, q1, hv, h⟩ := bR_inl h
    cases h
    exact hl
  split at h
  · obtain ⟨l, q1, hv, h⟩ := bR_inl h
    cases h
    exact hl
  split at h
  · obtain ⟨l, q1, hv, h⟩ := bR_inl h
    cases h
    exact hl
  split at h
  · obtain ⟨l, q1, hv, h⟩ := bR_inl h
    cases h
    exact hl
  split at h
  · obtain ⟨l, q1, hv, h⟩ := bR_inl h
    cases h
    exact hl
  split at h
  · obtain ⟨l, q1, hv, h⟩ := bR_inl h
    cases h
    exact hl
  obtain ⟨x, q1, hv, h⟩ := bR_inl h
  cases h
  unfold pCS at hv
  obtain ⟨k, q3, h3, hv⟩ := bR_inl hv
  exact pCds_r he _ _ _ _ _ _ hv CK_nil rdA_nil
theorem pMd_R {t : Nat → UInt8} {n : Nat} : ∀ (f last p : Nat) (m m2 : Md) (q : Nat), pMd t n f last m p = .inl (m2, q) → rdM t n m → rdM t n m2
  | 0, _, _, _, _, _, h, _ => by cases h
  | f + 1, last, p, m, m2, q, h, hm => by
    rw [pMd] at h
    split at h
    · cases h
      exact hm
    · obtain ⟨x, q1, h1, h⟩ := bR_inl h
      obtain ⟨m3, q3, h3, h⟩ := bR_inl h
      split at h
      · cases h
      · have := pId_l (id := x.1) (B := x.2) h1
        exact pMd_R f _ _ _ _ _ h (pSe_R (by omega) h3 hm)
/-- a module that was read: where its INSTRUCTIONS stand -/
theorem pMo_rd {t : Nat → UInt8} {n q : Nat} {m : Md} (h : pMo t n = .inl (m, q)) : rdM t n m := by
  unfold pMo at h
  obtain ⟨_, p, h1, h⟩ := bR_inl h
  obtain ⟨m1, p1, h2, h⟩ := bR_inl h
  have := pMd_R _ _ _ _ _ _ h2 rdA_nil
  unfold pEnd at h
  split at h
  · cases h
    exact this
  · cases h
