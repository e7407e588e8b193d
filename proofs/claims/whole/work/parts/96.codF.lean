/-! WHAT IS TRUE OF CODES THAT WERE READ -/
theorem alz_low {v : Nat} (hv : v < 256) (h : alz v = true) : (v ≤ 11 → v = 0 ∨ v = 1) ∧ v ≠ 12 ∧ v ≠ 13 ∧ v ≠ 14 := by
  have : ∀ v : Fin 256, alz v.val = true → (v.val ≤ 11 → v.val = 0 ∨ v.val = 1) ∧ v.val ≠ 12 ∧ v.val ≠ 13 ∧ v.val ≠ 14 := by decide +kernel
  exact this ⟨v, hv⟩ h
theorem pOs_f {t : Nat → UInt8} {e p op q q2 : Nat} {o : Od} (ho : op < 256) (h : pOs t e p op q = .inl (o, q2)) : ((op = 12 ∨ op = 13) → o.2.2.length = 1) ∧ (op = 14 → o.2.2.length = o.2.1 + 1) ∧ o.2.1 ≤ 99 ∧ (∀ l ∈ o.2.2, l < 2 ^ 32) ∧ (op ≤ 11 → op = 0 ∨ op = 1) := by
  have nil : ∀ l ∈ ([] : List Nat), l < 2 ^ 32 := fun l hl => by cases hl
  unfold pOs at h
  split at h
  next ha =>
    obtain ⟨a1, a2, a3, a4⟩ := alz_low ho ha
    cases h
    exact ⟨fun z => absurd z (by omega), fun z => absurd z a4, Nat.zero_le _, nil, a1⟩
  split at h
  · cases h
  split at h
  next h14 =>
    unfold pO14 at h
    obtain ⟨m, q1, h1, h⟩ := bR_inl h
    obtain ⟨l, q3, h2, h⟩ := bR_inl h
    cases h
    have h3 := (nV_l h1).2.1
    have h4 := (pFs_len _ _ _ _ h2).1
    exact ⟨fun z => absurd z (by omega), fun _ => h4, by show m ≤ 99; omega, pFs_f _ _ _ _ h2, fun z => absurd z (by omega)⟩
  next h14 =>
    unfold pOn at h
    split at h
    next h12 =>
      obtain ⟨B, q1, h1, h⟩ := bR_inl h
      cases h
      refine ⟨fun _ => rfl, fun z => absurd z h14, Nat.zero_le _, fun l hl => ?_, fun z => absurd z (by omega)⟩
      rw [List.mem_singleton.mp hl]
      exact (nU_l h1).2.1
    next h12 =>
      split at h
      next hc =>
        obtain ⟨B, q1, h1, h⟩ := bR_inl h
        cases h
        exact ⟨fun z => absurd z h12, fun z => absurd z h14, Nat.zero_le _, nil, fun z => absurd z (by omega)⟩
      split at h
      next hc =>
        unfold pO17 at h
        obtain ⟨B, q1, h1, h⟩ := bR_inl h
        obtain ⟨_, q3, h2, h⟩ := bR_inl h
        cases h
        exact ⟨fun z => absurd z h12, fun z => absurd z h14, Nat.zero_le _, nil, fun z => absurd z (by omega)⟩
      split at h
      next hc =>
        obtain ⟨_, q3, h2, h⟩ := bR_inl h
        cases h
        exact ⟨fun z => absurd z h12, fun z => absurd z h14, Nat.zero_le _, nil, fun z => absurd z (by omega)⟩
      split at h
      next hc =>
        obtain ⟨v, q3, h2, h⟩ := bR_inl h
        cases h
        exact ⟨fun z => absurd z h12, fun z => absurd z h14, Nat.zero_le _, nil, fun z => absurd z (by omega)⟩
      split at h
      next hc =>
        unfold pO40 at h
        obtain ⟨B, q1, h1, h⟩ := bR_inl h
        obtain ⟨f, q3, h2, h⟩ := bR_inl h
        cases h
        exact ⟨fun z => absurd z h12, fun z => absurd z h14, Nat.min_le_right _ _, nil, fun z => absurd z (by omega)⟩
      · cases h
theorem pI_f {t : Nat → UInt8} {e p q : Nat} {C : List In} {i : In} (h : pI t e C p = .inl (i, q)) : fI i := by
  obtain ⟨a1, a2, a3, a4, a5, h2⟩ := pI_l h
  have h256 : iOp i < 256 := by
    rw [a2]
    exact (t p).toNat_lt
  clear a2
  generalize hop : iOp i = op at *
  have nil : ∀ l ∈ ([] : List Nat), l < 2 ^ 32 := fun l hl => by cases hl
  unfold fI
  rw [hop]
  unfold pI2 at h2
  split at h2
  next h11 =>
    cases h2
    exact ⟨h256, fun z => absurd z (by omega), fun z => absurd z (by omega), fun z => absurd z (by omega), Nat.zero_le _, nil, fun _ => by omega⟩
  split at h2
  next h5 =>
    split at h2
    · split at h2
      · cases h2
        exact ⟨h256, fun z => absurd z (by omega), fun z => absurd z (by omega), fun z => absurd z (by omega), Nat.zero_le _, nil, fun _ => by omega⟩
      · cases h2
    · cases h2
  split at h2
  next h24 =>
    split at h2
    · cases h2
    · obtain ⟨bt, q2, h3, h2⟩ := bR_inl h2
      cases h2
      have hbt : bt < 200 := by
        unfold pBt at h3
        split at h3
        · cases h3
          decide
        · exact (nT_l h3).2.1.lt
      refine ⟨h256, fun _ => ?_, fun z => absurd z (by omega), fun z => absurd z (by omega), Nat.zero_le _, nil, fun _ => by omega⟩
      show ((lN bt).toInt32.toBitVec.toNat) < 200
      rw [lN_i32, pk_tn (by omega)]
      exact hbt
  next h24 =>
    obtain ⟨o, q2, h3, h2⟩ := bR_inl h2
    cases h2
    obtain ⟨b1, b2, b3, b4, b5⟩ := pOs_f h256 h3
    exact ⟨h256, fun z => absurd z h24, b1, b2, b3, b4, fun z => by have := b5 z; omega⟩
theorem sk_big {C : List In} : ∀ k, sk C (C.length + k) = sk C C.length
  | 0 => rfl
  | k + 1 => by
    show sk C (C.length + k + 1) = _
    rw [sk, List.getElem?_eq_none (by omega)]
    exact sk_big k
/-- codes so far, read up to p -/
def cI (C : List In) (p : Nat) : Prop := (∀ I ∈ C, fI I) ∧ (∀ i, (sk C i).length ≤ 20) ∧ C.length ≤ p ∧ (lbs C).length ≤ p
theorem cI.snoc {t : Nat → UInt8} {e p q : Nat} {C : List In} {i : In} (h : cI C p) (hi : pI t e C p = .inl (i, q)) : cI (C ++ [i]) q := by
  obtain ⟨h1, h2, h3, h4⟩ := h
  obtain ⟨a1, a2, a3, a4, a5, a6⟩ := pI_l hi
  have hend : (sk (C ++ [i]) (C ++ [i]).length).length ≤ 20 := by
    rw [sk_snoc]
    exact skS_len (h2 _) a5
  refine ⟨fun I hI => ?_, fun k => ?_, ?_, ?_⟩
  · rcases List.mem_append.mp hI with z | z
    · exact h1 I z
    · rw [List.mem_singleton.mp z]
      exact pI_f hi
  · by_cases hk : k ≤ C.length
    · rw [sk_app hk]
      exact h2 k
    · obtain ⟨j, rfl⟩ : ∃ j, k = (C ++ [i]).length + j := ⟨k - (C.length + 1), by rw [List.length_append, List.length_singleton]; omega⟩
      rw [sk_big]
      exact hend
  · rw [List.length_append, List.length_singleton]
    omega
  · unfold lbs at h4 ⊢
    rw [List.flatMap_append, List.length_append]
    simp only [List.flatMap_cons, List.flatMap_nil, List.append_nil]
    omega
theorem pBo_f {t : Nat → UInt8} {e : Nat} : ∀ (f p : Nat) (C C2 : List In) (q : Nat), pBo t e f C p = .inl (C2, q) → cI C p → cI C2 q ∧ (∃ D, C2 = C ++ D) ∧ C.length < C2.length ∧ sk C2 C2.length = [] ∧ ∀ (i : Nat) (I : In), C.length ≤ i → C2[i]? = some I → i + 1 < C2.length → ¬ (iOp I = 11 ∧ sk C2 i = [])
  | 0, _, _, _, _, h, _ => by cases h
  | f + 1, p, C, C2, q, h, hc => by
    rw [pBo] at h
    obtain ⟨i, q1, h1, h⟩ := bR_inl h
    have hc1 := hc.snoc h1
    split at h
    next hz =>
      cases h
      have hs : sk C C.length = [] := List.isEmpty_iff.mp hz.2
      refine ⟨hc1, ⟨[i], rfl⟩, by rw [List.length_append]; exact Nat.lt_succ_self _, ?_, fun k I hk hI hk2 => ?_⟩
      · rw [sk_snoc, hs]
        unfold skS
        rw [if_pos hz.1]
        rfl
      · rw [List.length_append, List.length_singleton] at hk2
        omega
    next hz =>
      obtain ⟨b1, ⟨D, hD⟩, b3, b4, b5⟩ := pBo_f f q1 (C ++ [i]) C2 q h hc1
      rw [List.length_append, List.length_singleton] at b3 b5
      refine ⟨b1, ⟨i :: D, by rw [hD, List.append_assoc]; rfl⟩, by omega, b4, fun k I hk hI hk2 => ?_⟩
      by_cases hkC : k = C.length
      · subst hkC
        have hD2 : C2 = C ++ (i :: D) := by rw [hD, List.append_assoc]; rfl
        rw [hD2, List.getElem?_append_right (Nat.le_refl _), Nat.sub_self] at hI
        cases hI
        rw [hD2, sk_app (Nat.le_refl _)]
        exact fun y => hz ⟨y.1, by rw [y.2]; rfl⟩
      · exact b5 k I (by omega) hI hk2
theorem pLo_f {t : Nat → UInt8} {e : Nat} : ∀ (k p : Nat) (L L2 : List Nat) (q : Nat), pLo t e k L p = .inl (L2, q) → (L.length ≤ 50 ∧ ∀ y ∈ L, isT y) → L2.length ≤ 50 ∧ (∀ y ∈ L2, isT y)
  | 0, p, L, L2, q, h, hL => by
    cases h
    exact hL
  | k + 1, p, L, L2, q, h, hL => by
    rw [pLo] at h
    obtain ⟨B, q1, h1, h⟩ := bR_inl h
    split at h
    next hB =>
      obtain ⟨ty, q2, h2, h⟩ := bR_inl h
      refine pLo_f k q2 _ L2 q h ⟨by rw [List.length_append, List.length_replicate]; exact hB, fun y hy => ?_⟩
      rcases List.mem_append.mp hy with z | z
      · exact hL.2 y z
      · rw [List.eq_of_mem_replicate z]
        exact (nT_l h2).2.1
    · cases h
theorem fF.app {C D : List In} {x : Fi} (h : fF C x) : fF (C ++ D) x := by
  obtain ⟨h1, h2, h3, h4⟩ := h
  refine ⟨h1, by rw [List.length_append]; omega, by rw [sk_app (by omega)]; exact h3, fun i I hi hI hie => ?_⟩
  rw [sk_app (by omega)]
  rw [List.getElem?_append_left (by omega)] at hI
  exact h4 i I hi hI hie
/-- codes and their rows so far -/
def CK (F : List Fi) (C : List In) (p : Nat) : Prop := cI C p ∧ sk C C.length = [] ∧ (∀ (k : Nat) (x : Fi), F[k]? = some x → fF C x ∧ x.1.length ≤ 50 ∧ ∀ y ∈ x.1, isT y) ∧ ∀ (f g : Nat) (x y : Fi), f < g → F[f]? = some x → F[g]? = some y → fiE x < fiS y
theorem cI.le {C : List In} {p q : Nat} (h : cI C p) (hq : p ≤ q) : cI C q := ⟨h.1, h.2.1, Nat.le_trans h.2.2.1 hq, Nat.le_trans h.2.2.2 hq⟩
theorem pCds_f {t : Nat → UInt8} {e : Nat} : ∀ (k : Nat) (F : List Fi) (C : List In) (p : Nat) (x : List Fi × List In) (q : Nat), pCds t e k F C p = .inl (x, q) → CK F C p → CK x.1 x.2 q
  | 0, F, C, p, x, q, h, hk => by
    cases h
    exact hk
  | k + 1, F, C, p, x, q, h, hk => by
    rw [pCds] at h
    obtain ⟨y, q1, h1, h⟩ := bR_inl h
    refine pCds_f k _ _ _ _ _ h ?_
    obtain ⟨c1, c2, c3, c4⟩ := hk
    unfold pCd at h1
    obtain ⟨B, p1, g1, h1⟩ := bR_inl h1
    have k1 := rZ_l2 g1
    unfold pCd2 at h1
    obtain ⟨m, p2, g2, h1⟩ := bR_inl h1
    have k2 := nV_l g2
    obtain ⟨L, p3, g3, h1⟩ := bR_inl h1
    have k3 := pLo_le _ _ _ _ _ g3
    have kL := pLo_f _ _ _ _ _ g3 ⟨Nat.zero_le _, fun y hy => by cases hy⟩
    unfold pCd3 at h1
    obtain ⟨C2, p4, g4, h1⟩ := bR_inl h1
    obtain ⟨b1, ⟨D, hD⟩, b3, b4, b5⟩ := pBo_f _ _ _ _ _ g4 (c1.le (by omega))
    split at h1
    · cases h1
    · cases h1
      have hold : ∀ x, fF C x → fF C2 x := fun x hx => by rw [hD]; exact hx.app
      have hnew : fF C2 (L, p3, C.length, C2.length - 1) := by
        refine ⟨by show C.length ≤ C2.length - 1; omega, by show C2.length - 1 < C2.length; omega, ?_, fun i I hi hI hie => b5 i I hi hI (by have : i < C2.length - 1 := hie; omega)⟩
        show sk C2 C.length = []
        rw [hD, sk_app (Nat.le_refl _)]
        exact c2
      refine ⟨b1, b4, fun j z hz => ?_, fun f g z w hfg hz hw => ?_⟩
      · rcases get_snoc hz with ⟨y1, -⟩ | ⟨-, rfl⟩
        · obtain ⟨d1, d2⟩ := c3 j z y1
          exact ⟨hold z d1, d2⟩
        · exact ⟨hnew, kL⟩
      · rcases get_snoc hw with ⟨y1, y2⟩ | ⟨y1, rfl⟩
        · rcases get_snoc hz with ⟨z1, z2⟩ | ⟨z1, -⟩
          · exact c4 f g z w hfg z1 y1
          · omega
        · rcases get_snoc hz with ⟨z1, z2⟩ | ⟨z1, -⟩
          · exact (c3 f z z1).1.2.1
          · omega
