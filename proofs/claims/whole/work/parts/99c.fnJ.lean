/-! RUNNING: the judge's states of a function that fits -/
/-- function f of a module that is kept -/
theorem jRun_good {t : Nat → UInt8} {m : Md} {f : Nat} : ∀ (r i : Nat) (J : JS), jG (jRun t m f r i J) = true → jG J = true
  | 0, _, _, h => h
  | r + 1, i, J, h => by
    rw [jRun] at h
    split at h
    next z => exact z
    · exact h
theorem jRun_add {t : Nat → UInt8} {m : Md} {f : Nat} : ∀ (a b i : Nat) (J : JS), jG (jRun t m f (a + b) i J) = true → i + a + b ≤ (mdC m).2.length → jRun t m f (a + b) i J = jRun t m f b (i + a) (jRun t m f a i J)
  | 0, b, i, J, _, _ => by rw [Nat.zero_add]; rfl
  | a + 1, b, i, J, h, hl => by
    rw [show a + 1 + b = (a + b) + 1 by omega] at h ⊢
    rw [jRun] at h ⊢
    rw [show jRun t m f (a + 1) i J = if jG J = true then (match (mdC m).2[i]? with
      | some I => jRun t m f a (i + 1) (jI t m f i I J)
      | none => J) else J from rfl]
    by_cases hg : jG J = true
    · rw [if_pos hg] at h ⊢
      rw [if_pos hg]
      have hI : (mdC m).2[i]? = some (mdC m).2[i] := List.getElem?_eq_getElem (by omega)
      rw [hI] at h ⊢
      have := jRun_add a b (i + 1) _ h (by omega)
      rw [show i + 1 + a = i + (a + 1) by omega] at this
      exact this
    · rw [if_neg hg] at h
      exact absurd h hg
def JokAt (t : Nat → UInt8) (m : Md) (f i : Nat) : Prop := jok (jAt t m f i)
section FNJ
variable {t : Nat → UInt8} {n f : Nat} {m : Md}
/-- function f is there, and its CODE fits -/
def okFn (t : Nat → UInt8) (n : Nat) (m : Md) (f : Nat) : Prop := okK t n m ∧ f < (mdU m).length
theorem okFn.F (h : okFn t n m f) : FX m f := by
  obtain ⟨h1, h2⟩ := h
  obtain ⟨v1, -⟩ := vd_facts h1.2.2.2.2.1
  exact ⟨h2, vTy_get v1 h2, h1.2.2.1.1, h1.2.2.1.2.1⟩
theorem okFn.fl (h : okFn t n m f) : f < (mdC m).1.length := by
  rw [← h.1.2.2.1.1]
  exact h.2
theorem okFn.fF (h : okFn t n m f) : fF (mdC m).2 (fiAt m f) := h.1.2.2.1.2.2.2.1 f h.fl
theorem okFn.C (h : okFn t n m f) : fC (mdC m).2 := h.1.2.2.1.2.2.1
theorem okFn.good (h : okFn t n m f) : jG (jAt t m f (fiE (fiAt m f) + 1)) = true := by
  obtain ⟨-, -, -, -, -, -, -, -, v9⟩ := vd_facts h.1.2.2.2.2.1
  exact List.all_eq_true.mp v9 f (List.mem_range.mpr h.2)
theorem okFn.goodAt (h : okFn t n m f) {i : Nat} (h1 : fiS (fiAt m f) ≤ i) (h2 : i ≤ fiE (fiAt m f) + 1) : jG (jAt t m f i) = true := by
  have hg := h.good
  have hE := h.fF.2.1
  unfold jAt at hg ⊢
  rw [show fiE (fiAt m f) + 1 - fiS (fiAt m f) = (i - fiS (fiAt m f)) + (fiE (fiAt m f) + 1 - i) by omega] at hg
  have := jRun_add _ _ _ _ hg (by omega)
  rw [this] at hg
  exact jRun_good _ _ _ hg
theorem okFn.ins (h : okFn t n m f) {i : Nat} (h2 : i ≤ fiE (fiAt m f)) : ∃ I, (mdC m).2[i]? = some I ∧ fI I := by
  have hE := h.fF.2.1
  have hI : (mdC m).2[i]? = some (mdC m).2[i] := List.getElem?_eq_getElem (by omega)
  exact ⟨_, hI, h.C.1 _ (List.mem_of_getElem? hI)⟩
theorem okFn.succ (h : okFn t n m f) {i : Nat} {I : In} (h1 : fiS (fiAt m f) ≤ i) (h2 : i ≤ fiE (fiAt m f)) (hI : (mdC m).2[i]? = some I) : jAt t m f (i + 1) = jI t m f i I (jAt t m f i) := by
  have hg := h.goodAt h1 (by omega)
  unfold jAt at hg ⊢
  rw [show i + 1 - fiS (fiAt m f) = (i - fiS (fiAt m f)) + 1 by omega]
  have e : fiS (fiAt m f) + (i - fiS (fiAt m f)) = i := by omega
  have := jRun_snoc (t := t) (m := m) (f := f) (i - fiS (fiAt m f)) (fiS (fiAt m f)) (jSt0 m f) I hg (by rw [e]; exact hI)
  rw [e] at this
  exact this
theorem okFn.st0 (h : okFn t n m f) : jAt t m f (fiS (fiAt m f)) = ([], [(none, 0, (tyAt m (fnTy m f)).2.2, false)], true) := by
  unfold jAt
  rw [Nat.sub_self]
  rfl
theorem okFn.gv (h : okFn t n m f) : isT0 (tyAt m (fnTy m f)).2.2 := (h.1.2.1.1 _ (List.mem_of_getElem? (tyAt_get h.F.2.1))).2.2.2
theorem okFn.skj (h : okFn t n m f) : ∀ {i : Nat}, fiS (fiAt m f) ≤ i → i ≤ fiE (fiAt m f) → skJ (mdC m).2 i (jAt t m f i)
  | 0, h1, h2 => by
    have e : fiS (fiAt m f) = 0 := by omega
    have := h.st0
    rw [e] at this
    rw [this]
    unfold skJ skO2
    rfl
  | i + 1, h1, h2 => by
    by_cases hs : fiS (fiAt m f) = i + 1
    · have h3 := h.st0
      have h4 := h.fF.2.2.1
      rw [hs] at h3 h4
      rw [h3]
      unfold skJ skO2
      rw [h4]
      rfl
    · obtain ⟨I, hI, hfI⟩ := h.ins (i := i) (by omega)
      rw [h.succ (by omega) (by omega) hI]
      exact skJ_step (h.skj (by omega) (by omega)) hI hfI (h.C.2.2 i) (h.fF.2.2.2 i I (by omega) hI (by omega))
theorem okFn.jo (h : okFn t n m f) : ∀ {i : Nat}, fiS (fiAt m f) ≤ i → i ≤ fiE (fiAt m f) → jok (jAt t m f i)
  | i, h1, h2 => by
    have h0 : jok (jAt t m f (fiS (fiAt m f))) := by
      rw [h.st0]
      refine ⟨Nat.zero_le _, (show 1 ≤ 22 by decide), fun x hx => (by cases hx), fun k b hb => ?_, fun a b ba bb hab ha hb => ?_⟩
      · have hk := get_lt hb
        have : k = 0 := by
          have : ([(none, 0, (tyAt m (fnTy m f)).2.2, false)] : List Bk).length = 1 := rfl
          have : (jB (([], [(none, 0, (tyAt m (fnTy m f)).2.2, false)], true) : JS)).length = 1 := rfl
          omega
        subst this
        have hb := Option.some.inj hb
        subst hb
        exact ⟨Nat.le_refl _, isT0.lt h.gv, fun o ho => by cases ho⟩
      · have h1 := get_lt ha
        have h2 := get_lt hb
        have : (jB (([], [(none, 0, (tyAt m (fnTy m f)).2.2, false)], true) : JS)).length = 1 := rfl
        have e1 : a = 0 := by omega
        have e2 : b = 0 := by omega
        subst e1
        subst e2
        rw [ha] at hb
        cases hb
        exact Nat.le_refl _
    have hE := h.fF.2.1
    have hC4 := h.1.2.2.2.2.2.2.1
    have key : ∀ r, fiS (fiAt m f) + r ≤ fiE (fiAt m f) → JokAt t m f (fiS (fiAt m f) + r) := by
      intro r
      induction r with
      | zero => intro _; exact h0
      | succ r ih =>
        intro hr
        have ih := ih (by omega)
        obtain ⟨I, hI, hfI⟩ := h.ins (i := fiS (fiAt m f) + r) (by omega)
        show JokAt t m f (fiS (fiAt m f) + r + 1)
        unfold JokAt
        rw [h.succ (by omega) (by omega) hI]
        exact jok_I h.1.2.1 h.F hfI ih (h.skj (by omega) (by omega)).pos (by omega)
    have := key (i - fiS (fiAt m f)) (by omega)
    rw [show fiS (fiAt m f) + (i - fiS (fiAt m f)) = i by omega] at this
    exact this
theorem okFn.Tl (h : okFn t n m f) : ∀ {i : Nat}, fiS (fiAt m f) ≤ i → i ≤ fiE (fiAt m f) → (jT (jAt t m f i)).length ≤ i - fiS (fiAt m f)
  | 0, h1, h2 => by
    have e : fiS (fiAt m f) = 0 := by omega
    have := h.st0
    rw [e] at this
    rw [this]
    exact Nat.zero_le _
  | i + 1, h1, h2 => by
    by_cases hs : fiS (fiAt m f) = i + 1
    · have h3 := h.st0
      rw [hs] at h3
      rw [h3]
      exact Nat.zero_le _
    · obtain ⟨I, hI, hfI⟩ := h.ins (i := i) (by omega)
      rw [h.succ (by omega) (by omega) hI]
      have := h.Tl (i := i) (by omega) (by omega)
      have := T_I (t := t) (m := m) (f := f) (i := i) (I := I) (J := jAt t m f i)
      omega
end FNJ
