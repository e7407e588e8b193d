/-! RUNNING: blocks of a function that fits: where they end, what stands behind them -/
theorem nx_eq {C : List In} {i o x : Nat} {I : In} {r : List (Nat × Nat)} (hI : C[i]? = some I) (hop : iOp I = 5 ∨ iOp I = 11) (hs : sk C i = (o, x) :: r) : nx C x = i := by
  have hc : clo C x := by
    refine ⟨i, get_lt hI, ?_⟩
    unfold cloP
    rw [opC_get hI, hs, Bool.and_eq_true, Bool.or_eq_true, decide_eq_true_iff, decide_eq_true_iff, decide_eq_true_iff]
    exact ⟨hop, rfl⟩
  obtain ⟨n1, n2, o2, r2, n3⟩ := nx_get hc
  have hN : C[nx C x]? = some C[nx C x] := List.getElem?_eq_getElem n1
  rw [opC_get hN] at n2
  rcases Nat.lt_trichotomy (nx C x) i with z | z | z
  · exact absurd rfl (sk_gone hN n2 n3 z (by rw [hs]; exact List.mem_cons_self))
  · exact z
  · exact absurd rfl (sk_gone hI hop hs z (by rw [n3]; exact List.mem_cons_self))
theorem sk_take {C : List In} {i : Nat} (hi : i ≤ C.length) : sk (C.take i) (C.take i).length = sk C i := by
  have hl : (C.take i).length = i := by rw [List.length_take]; omega
  have h : sk (C.take i ++ C.drop i) i = sk (C.take i) i := sk_app (by omega)
  rw [List.take_append_drop] at h
  rw [hl, h]
theorem sk_dec {C : List In} : ∀ {i : Nat} {s1 : List (Nat × Nat)} {o x : Nat} {r : List (Nat × Nat)}, sk C i = s1 ++ (o, x) :: r → r = sk C o
  | 0, s1, o, x, r, h => by
    have : ([] : List (Nat × Nat)) = s1 ++ (o, x) :: r := h
    cases s1 <;> cases this
  | i + 1, s1, o, x, r, h => by
    rw [sk] at h
    split at h
    next I hI =>
      unfold skS at h
      split at h
      · cases hs : sk C i with
        | nil =>
          rw [hs] at h
          have h : ([] : List (Nat × Nat)) = s1 ++ (o, x) :: r := h
          cases s1 <;> cases h
        | cons y ys =>
          rw [hs] at h
          have h : ys = s1 ++ (o, x) :: r := h
          exact sk_dec (i := i) (s1 := y :: s1) (by rw [hs, h]; rfl)
      split at h
      · cases hs : sk C i with
        | nil =>
          rw [hs] at h
          have h : ([] : List (Nat × Nat)) = s1 ++ (o, x) :: r := h
          cases s1 <;> cases h
        | cons y ys =>
          obtain ⟨o2, x2⟩ := y
          rw [hs] at h
          have h : (o2, i) :: ys = s1 ++ (o, x) :: r := h
          cases s1 with
          | nil =>
            cases h
            exact sk_dec (i := i) (s1 := []) hs
          | cons z zs =>
            have h2 : ys = zs ++ (o, x) :: r := (List.cons.inj h).2
            exact sk_dec (i := i) (s1 := (o2, x2) :: zs) (by rw [hs, h2]; rfl)
      split at h
      · cases s1 with
        | nil =>
          have h : (i, i) :: sk C i = (o, x) :: r := h
          have h1 := (List.cons.inj h).1
          have h2 := (List.cons.inj h).2
          cases h1
          exact h2.symm
        | cons z zs =>
          have h2 : sk C i = zs ++ (o, x) :: r := (List.cons.inj h).2
          exact sk_dec (i := i) h2
      · exact sk_dec (i := i) h
    · exact sk_dec (i := i) h
theorem sk_ge {C : List In} {n : Nat} (hn : sk C n = []) : ∀ {i : Nat}, n ≤ i → ∀ {o x : Nat}, (o, x) ∈ sk C i → n ≤ o
  | 0, h, o, x, hx => by cases hx
  | i + 1, h, o, x, hx => by
    by_cases hi : n = i + 1
    · subst hi
      rw [hn] at hx
      cases hx
    have ih := fun {o x} => sk_ge hn (i := i) (by omega) (o := o) (x := x)
    rw [sk] at hx
    split at hx
    next I hI =>
      unfold skS at hx
      split at hx
      · exact ih (List.mem_of_mem_tail hx)
      split at hx
      · split at hx
        next o2 x2 r hs =>
          rcases List.mem_cons.mp hx with he | hx
          · cases he
            exact ih (by rw [hs]; exact List.mem_cons_self)
          · exact ih (by rw [hs]; exact List.mem_cons_of_mem _ hx)
        · cases hx
      split at hx
      · rcases List.mem_cons.mp hx with he | hx
        · cases he
          omega
        · exact ih hx
      · exact ih hx
    · exact ih hx
section BLKS
variable {t : Nat → UInt8} {n f : Nat} {m : Md}
theorem okFn.rd (h : okFn t n m f) : ((∃ I, (mdC m).2[fiS (fiAt m f)]? = some I ∧ I.1 = (fiAt m f).2.1) ∧ ∃ I, (mdC m).2[fiE (fiAt m f)]? = some I ∧ iOp I = 11 ∧ sk (mdC m).2 (fiE (fiAt m f)) = []) ∧ ∀ (i : Nat) (I : In), fiS (fiAt m f) ≤ i → i ≤ fiE (fiAt m f) → (mdC m).2[i]? = some I → ∃ q, pI t n ((mdC m).2.take i) I.1 = .inl (I, q) ∧ ∀ I2, i < fiE (fiAt m f) → (mdC m).2[i + 1]? = some I2 → I2.1 = q := h.1.2.2.2.1 f _ (fiAt_get h.fl)
theorem okFn.five (h : okFn t n m f) {i : Nat} {I : In} (h1 : fiS (fiAt m f) ≤ i) (h2 : i ≤ fiE (fiAt m f)) (hI : (mdC m).2[i]? = some I) (h5 : iOp I = 5) : ∃ o r, sk (mdC m).2 i = (o, o) :: r ∧ opC (mdC m).2 o = 4 := by
  obtain ⟨q, u1, -⟩ := h.rd.2 i I h1 h2 hI
  have hil := get_lt hI
  have u2 := (pI_l u1).2.2.2.2.2
  unfold pI2 at u2
  rw [if_neg (by omega), if_pos h5, sk_take (by omega)] at u2
  cases hs : sk (mdC m).2 i with
  | nil =>
    rw [hs] at u2
    cases u2
  | cons a r =>
    obtain ⟨o, x⟩ := a
    rw [hs] at u2
    have hm : (o, x) ∈ sk (mdC m).2 i := by rw [hs]; exact List.mem_cons_self
    have hx := skO_lt (sk_O (mdC m).2 i) hm
    obtain ⟨⟨j, hj, hj2⟩, hk⟩ := sk_kind (by omega) hm
    have u2 : (if ((mdC m).2.take i)[x]?.map iOp = some 4 then (Sum.inl (mkI I.1 5 (0, 0, []), I.1 + 1) : Sum (In × Nat) (Int32 × Int32)) else .inr (-1, nI I.1)) = .inl (I, q) := u2
    rw [List.getElem?_take, if_pos hx.2] at u2
    by_cases z : (mdC m).2[x]?.map iOp = some 4
    · rcases hk with w | ⟨j2, w, w2⟩
      · subst w
        refine ⟨x, r, rfl, ?_⟩
        rw [opC_get hj]
        rw [hj] at z
        exact Option.some.inj z
      · rw [w] at z
        have := Option.some.inj z
        omega
    · rw [if_neg z] at u2
      cases u2
theorem okFn.endHit (h : okFn t n m f) {i o x : Nat} {I : In} {r : List (Nat × Nat)} (h1 : fiS (fiAt m f) ≤ i) (h2 : i ≤ fiE (fiAt m f)) (hI : (mdC m).2[i]? = some I) (h11 : iOp I = 11) (hs : sk (mdC m).2 i = (o, x) :: r) : endI (mdC m).2 o = i := by
  have hil := get_lt hI
  have hnx := nx_eq hI (.inr h11) hs
  have hm : (o, x) ∈ sk (mdC m).2 i := by rw [hs]; exact List.mem_cons_self
  have hx := skO_lt (sk_O (mdC m).2 i) hm
  have hS := h.fF.2.2.1
  have ho := sk_ge hS h1 hm
  obtain ⟨-, hk⟩ := sk_kind (by omega) hm
  by_cases hxo : x = o
  · subst hxo
    unfold endI
    rw [hnx, opC_get hI, if_neg (by omega)]
  · rcases hk with w | ⟨j2, w, w2⟩
    · exact absurd w hxo
    · obtain ⟨o2, r2, s1, s2⟩ := h.five (i := x) (by omega) (by omega) w w2
      have hs2 : sk (mdC m).2 (x + 1) = (o2, x) :: r2 := by
        rw [sk_succ w, s1, w2]
        rfl
      have ho2 : o = o2 := by
        rcases sk_mem (n := x + 1) (m := i) (by omega) hm with z | z
        · omega
        · rw [hs2] at z
          rcases List.mem_cons.mp z with z | z
          · cases z
            rfl
          · have hO := sk_O (mdC m).2 (x + 1)
            rw [hs2] at hO
            have := skO_lt hO.2.2 z
            have := hO.1
            omega
      subst ho2
      have hnx2 := nx_eq w (.inl w2) s1
      unfold endI
      rw [hnx2, opC_get w, if_pos w2, hnx]
/-- from behind an opener on, as long as it is open -/
theorem okFn.reg0 (h : okFn t n m f) {o : Nat} {I : In} (h1 : fiS (fiAt m f) ≤ o) (h2 : o ≤ fiE (fiAt m f)) (hI : (mdC m).2[o]? = some I) (h24 : 2 ≤ iOp I ∧ iOp I ≤ 4) :
    ∀ (k : Nat), (∀ j I', j < k → (mdC m).2[o + 1 + j]? = some I' → ¬ (iOp I' = 11 ∧ ∃ x, sk (mdC m).2 (o + 1 + j) = (o, x) :: sk (mdC m).2 o)) → o + 1 + k ≤ fiE (fiAt m f) + 1 →
    o + 1 + k ≤ fiE (fiAt m f) ∧ (∃ s1 x, sk (mdC m).2 (o + 1 + k) = s1 ++ (o, x) :: sk (mdC m).2 o) ∧ pre (jB (jAt t m f o)).length (jT (jAt t m f (o + 1))).length (some o, (jT (jAt t m f (o + 1))).length, iB I, false) (jAt t m f (o + 1)) (jAt t m f (o + 1 + k))
  | 0, _, hk => by
    obtain ⟨-, I9, s4, s5, s6⟩ := h.rd.1
    have hne : o ≠ fiE (fiAt m f) := fun z => by
      rw [z] at hI
      rw [s4] at hI
      cases hI
      omega
    have hb := (h.skj h1 h2).len
    have h20 := h.C.2.2 o
    refine ⟨by omega, ⟨[], o, ?_⟩, ?_⟩
    · show sk (mdC m).2 (o + 1) = _
      rw [sk_succ hI]
      unfold skS
      rw [if_neg (by omega), if_neg (by omega), if_pos h24]
      rfl
    · have e := h.succ h1 h2 hI
      rw [jI_24 h24] at e
      have eB : jB (if iOp I = 4 then (jPop 127 (jAt t m f o)).2 else jAt t m f o) = jB (jAt t m f o) := by
        split
        · exact jPop_B
        · rfl
      unfold jOpen at e
      rw [eB, if_pos (by omega)] at e
      show pre _ _ _ _ (jAt t m f (o + 1))
      refine ⟨?_, rfl, ⟨false, ?_⟩, rfl, Nat.le_refl _⟩
      · rw [e]
        show _ < (jB (jAt t m f o) ++ [_]).length
        rw [List.length_append, List.length_singleton]
        omega
      · rw [e]
        show (jB (jAt t m f o) ++ [_])[_]? = _
        rw [List.getElem?_append_right (Nat.le_refl _), Nat.sub_self]
        rfl
  | k + 1, hno, hk => by
    obtain ⟨g1, ⟨s1, x, g2⟩, g3⟩ := h.reg0 h1 h2 hI h24 k (fun j I' hj => hno j I' (by omega)) (by omega)
    obtain ⟨I2, hI2, hfI2⟩ := h.ins g1
    have hskJ := (h.skj (i := o + 1 + k) (by omega) g1).len
    have hoJ := (h.skj h1 h2).len
    have hjk := h.jo (i := o + 1 + k) (by omega) g1
    have h20 := h.C.2.2 (o + 1 + k)
    have e := h.succ (by omega) g1 hI2
    have h3 : ∃ s1 x, sk (mdC m).2 (o + 1 + (k + 1)) = s1 ++ (o, x) :: sk (mdC m).2 o := by
      show ∃ s1 x, sk (mdC m).2 (o + 1 + k + 1) = _
      rw [sk_succ hI2, g2]
      unfold skS
      split
      next z =>
        cases s1 with
        | nil => exact absurd ⟨z, x, g2⟩ (hno k I2 (by omega) hI2)
        | cons y ys => exact ⟨ys, x, rfl⟩
      split
      · cases s1 with
        | nil => exact ⟨[], o + 1 + k, rfl⟩
        | cons y ys => exact ⟨(y.1, o + 1 + k) :: ys, x, rfl⟩
      split
      · exact ⟨(o + 1 + k, o + 1 + k) :: s1, x, rfl⟩
      · exact ⟨s1, x, rfl⟩
    refine ⟨?_, h3, ?_⟩
    · have hne : o + 1 + (k + 1) ≠ fiE (fiAt m f) + 1 := fun z => by
        have hE : o + 1 + k = fiE (fiAt m f) := by omega
        obtain ⟨-, I9, s4, s5, s6⟩ := h.rd.1
        rw [hE, s6] at g2
        cases s1 <;> cases g2
      omega
    · show pre _ _ _ _ (jAt t m f (o + 1 + k + 1))
      rw [e]
      by_cases z11 : iOp I2 = 11
      · rw [jI_11 z11]
        refine g3.blk rfl hjk ?_
        have : s1 ≠ [] := fun w => by
          subst w
          exact hno k I2 (by omega) hI2 ⟨z11, x, g2⟩
        have hpos : 0 < s1.length := List.length_pos_iff.mpr this
        have hlen : (sk (mdC m).2 (o + 1 + k)).length = s1.length + ((sk (mdC m).2 o).length + 1) := by
          rw [g2, List.length_append, List.length_cons]
        omega
      by_cases z24 : 2 ≤ iOp I2 ∧ iOp I2 ≤ 4
      · rw [jI_24 z24]
        have st : stays (jAt t m f (o + 1 + k)) (if iOp I2 = 4 then (jPop 127 (jAt t m f (o + 1 + k))).2 else jAt t m f (o + 1 + k)) := by
          split
          · exact (stays.rf hjk (by omega)).pop
          · exact stays.rf hjk (by omega)
        have eB : (jB (if iOp I2 = 4 then (jPop 127 (jAt t m f (o + 1 + k))).2 else jAt t m f (o + 1 + k))).length = (jB (jAt t m f (o + 1 + k))).length := by
          split
          · rw [jPop_B]
          · rfl
        exact (g3.sm rfl hjk st.2).opn (by omega)
      · exact g3.sm rfl hjk (stays_I h.1.2.1 h.F hfI2 hjk (by omega) z11 z24).2
/-- an opened block ends, and what is true up to there -/
theorem okFn.reg (h : okFn t n m f) {o : Nat} {I : In} (h1 : fiS (fiAt m f) ≤ o) (h2 : o ≤ fiE (fiAt m f)) (hI : (mdC m).2[o]? = some I) (h24 : 2 ≤ iOp I ∧ iOp I ≤ 4) :
    (o < endI (mdC m).2 o ∧ endI (mdC m).2 o < fiE (fiAt m f) ∧ opC (mdC m).2 (endI (mdC m).2 o) = 11 ∧ ∃ x, sk (mdC m).2 (endI (mdC m).2 o) = (o, x) :: sk (mdC m).2 o) ∧
    ∀ i, o < i → i ≤ endI (mdC m).2 o → (∃ s1 x, sk (mdC m).2 i = s1 ++ (o, x) :: sk (mdC m).2 o) ∧ pre (jB (jAt t m f o)).length (jT (jAt t m f (o + 1))).length (some o, (jT (jAt t m f (o + 1))).length, iB I, false) (jAt t m f (o + 1)) (jAt t m f i) := by
  obtain ⟨-, I9, s4, s5, s6⟩ := h.rd.1
  have hex : ∃ k, ∃ I', (mdC m).2[o + 1 + k]? = some I' ∧ iOp I' = 11 ∧ o + 1 + k ≤ fiE (fiAt m f) ∧ ∃ x, sk (mdC m).2 (o + 1 + k) = (o, x) :: sk (mdC m).2 o := by
    refine Classical.byContradiction fun hno => ?_
    have hne : o ≠ fiE (fiAt m f) := fun z => by
      rw [z] at hI
      rw [s4] at hI
      cases hI
      omega
    obtain ⟨-, ⟨s1, x, g2⟩, -⟩ := h.reg0 h1 h2 hI h24 (fiE (fiAt m f) - (o + 1)) (fun j I' hj hI' hc => hno ⟨j, I', hI', hc.1, by omega, hc.2⟩) (by omega)
    rw [show o + 1 + (fiE (fiAt m f) - (o + 1)) = fiE (fiAt m f) by omega, s6] at g2
    cases s1 <;> cases g2
  obtain ⟨k, ⟨I', k1, k2, k3, x, k4⟩, kmin⟩ := pk_least _ hex
  have he := h.endHit (by omega) k3 k1 k2 k4
  rw [he]
  have hno : ∀ j I', j < k → (mdC m).2[o + 1 + j]? = some I' → ¬ (iOp I' = 11 ∧ ∃ x, sk (mdC m).2 (o + 1 + j) = (o, x) :: sk (mdC m).2 o) := fun j I' hj hI' hc => kmin j hj ⟨I', hI', hc.1, by omega, hc.2⟩
  have hlt : o + 1 + k ≠ fiE (fiAt m f) := fun z => by
    rw [z, s6] at k4
    cases k4
  refine ⟨⟨by omega, by omega, by rw [opC_get k1]; exact k2, x, k4⟩, fun i hi hi2 => ?_⟩
  have := h.reg0 h1 h2 hI h24 (i - (o + 1)) (fun j I' hj => hno j I' (by omega)) (by omega)
  rw [show o + 1 + (i - (o + 1)) = i by omega] at this
  exact this.2
end BLKS
