/-! WHAT IS TRUE OF A MODULE THAT WAS READ -/
def fT (t : Nat → UInt8) (n : Nat) (x : Ty) : Prop := x.2.1 ≤ 60 ∧ (∀ j, j < x.2.1 → isT (t (x.1 + j)).toNat) ∧ x.1 + x.2.1 ≤ n ∧ (x.2.2 = 0 ∨ isT x.2.2)
def fLi (x : Li) : Prop := x.1 < 2 ^ 32 ∧ ∀ b, x.2 = some b → b < 2 ^ 32
def isK (v : Nat) : Prop := v = 65 ∨ v = 66 ∨ v = 35
def fG (x : Gl) : Prop := isT x.1 ∧ x.2.1 ≤ 1 ∧ isK x.2.2.1
def fE (n : Nat) (x : Ex) : Prop := x.1 + x.2.1 ≤ n ∧ x.2.2.1 ≤ 3 ∧ x.2.2.2 < 2 ^ 32
def fL (x : El) : Prop := isK x.1 ∧ x.2.2.length ≤ 60 ∧ ∀ y ∈ x.2.2, y < 2 ^ 32
def fcM (t : Nat → UInt8) (n : Nat) (m : Md) : Prop := (∀ x ∈ mdT m, fT t n x) ∧ (∀ x ∈ mdU m, x < 2 ^ 32) ∧ (∀ x ∈ mdA m, fLi x) ∧ (∀ x ∈ mdM m, fLi x) ∧ (∀ x ∈ mdG m, fG x) ∧ (∀ x ∈ mdE m, fE n x) ∧ ∀ x ∈ mdL m, fL x
theorem pMn_all {α : Type} {P : Nat → Rr α} {K : α → Prop} (hP : ∀ p x q, P p = .inl (x, q) → K x) : ∀ (k : Nat) (l : List α) (p : Nat) (l2 : List α) (q : Nat), (∀ x ∈ l, K x) → pMn P k l p = .inl (l2, q) → ∀ x ∈ l2, K x
  | 0, l, p, l2, q, hl, h => by
    cases h
    exact hl
  | k + 1, l, p, l2, q, hl, h => by
    rw [pMn] at h
    obtain ⟨x, q1, h1, h⟩ := bR_inl h
    refine pMn_all hP k _ _ _ _ (fun y hy => ?_) h
    rcases List.mem_append.mp hy with z | z
    · exact hl y z
    · rw [List.mem_singleton.mp z]
      exact hP _ _ _ h1
theorem pVc_all {α : Type} {t : Nat → UInt8} {e p q : Nat} {P : Nat → Rr α} {K : α → Prop} {l : List α} (hP : ∀ p x q, P p = .inl (x, q) → K x) (h : pVc t e P p = .inl (l, q)) : ∀ x ∈ l, K x := by
  unfold pVc at h
  obtain ⟨m, q1, h1, h⟩ := bR_inl h
  exact pMn_all hP _ _ _ _ _ (fun y hy => by cases hy) h
theorem pTs_f {t : Nat → UInt8} {e : Nat} : ∀ (k p : Nat) (u : Unit) (q : Nat), pTs t e k p = .inl (u, q) → q = p + k ∧ ∀ j, j < k → isT (t (p + j)).toNat
  | 0, p, u, q, h => by
    cases h
    exact ⟨rfl, fun j hj => absurd hj (Nat.not_lt_zero j)⟩
  | k + 1, p, u, q, h => by
    rw [pTs] at h
    obtain ⟨x, q1, h1, h⟩ := bR_inl h
    obtain ⟨-, a1, a2, a3, -⟩ := nT_l h1
    obtain ⟨b1, b2⟩ := pTs_f k q1 u q h
    subst a3
    refine ⟨by omega, fun j hj => ?_⟩
    by_cases j0 : j = 0
    · subst j0
      rw [Nat.add_zero, ← a2]
      exact a1
    · have := b2 (j - 1) (by omega)
      rw [show p + 1 + (j - 1) = p + j by omega] at this
      exact this
theorem pTy_f {t : Nat → UInt8} {n e p q : Nat} {x : Ty} (he : e ≤ n) (h : pTy t e p = .inl (x, q)) : fT t n x := by
  unfold pTy at h
  obtain ⟨_, p1, h1, h⟩ := bR_inl h
  obtain ⟨m, p2, h2, h⟩ := bR_inl h
  obtain ⟨_, p3, h3, h⟩ := bR_inl h
  unfold pTy3 at h
  obtain ⟨v, p4, h4, h⟩ := bR_inl h
  have a2 := nV_l h2
  have a4 := nV_l h4
  obtain ⟨b1, b2⟩ := pTs_f _ _ _ _ h3
  unfold pTy4 at h
  split at h
  · split at h
    · obtain ⟨g, p5, h5, h⟩ := bR_inl h
      cases h
      exact ⟨a2.2.1, b2, by show p2 + m ≤ n; omega, .inr (nT_l h5).2.1⟩
    · cases h
      exact ⟨a2.2.1, b2, by show p2 + m ≤ n; omega, .inl rfl⟩
  · cases h
theorem pLi_f {t : Nat → UInt8} {e p q : Nat} {x : Li} (h : pLi t e p = .inl (x, q)) : fLi x := by
  unfold pLi at h
  obtain ⟨fl, p1, h1, h⟩ := bR_inl h
  split at h
  · obtain ⟨a, p2, h2, h⟩ := bR_inl h
    have a1 := nU_l h2
    unfold pLi2 at h
    split at h
    · obtain ⟨b, p3, h3, h⟩ := bR_inl h
      cases h
      refine ⟨a1.2.1, fun c hc => ?_⟩
      cases hc
      exact (nU_l h3).2.1
    · cases h
      exact ⟨a1.2.1, fun c hc => by cases hc⟩
  · cases h
theorem pTab_f {t : Nat → UInt8} {e p q : Nat} {x : Li} (h : pTab t e p = .inl (x, q)) : fLi x := by
  unfold pTab at h
  obtain ⟨_, p1, h1, h⟩ := bR_inl h
  exact pLi_f h
theorem pCo_f {t : Nat → UInt8} {e p q : Nat} {c : Nat × Int64} (h : pCo t e p = .inl (c, q)) : isK c.1 := by
  unfold pCo at h
  obtain ⟨op, q1, h5, h⟩ := bR_inl h
  obtain ⟨v, q2, h6, h⟩ := bR_inl h
  cases h
  unfold pOp at h5
  obtain ⟨v2, q3, h7, h5⟩ := bR_inl h5
  split at h5
  · cases h5
  · split at h5
    next hk =>
      cases h5
      exact hk
    · cases h5
theorem pGl_f {t : Nat → UInt8} {e p q : Nat} {x : Gl} (h : pGl t e p = .inl (x, q)) : fG x := by
  unfold pGl at h
  obtain ⟨ty, p1, h1, h⟩ := bR_inl h
  obtain ⟨st, p2, h2, h⟩ := bR_inl h
  split at h
  next hs =>
    unfold pGl3 at h
    obtain ⟨c, p3, h3, h⟩ := bR_inl h
    cases h
    exact ⟨(nT_l h1).2.1, hs, pCo_f h3⟩
  · cases h
theorem pEx_f {t : Nat → UInt8} {n e p q : Nat} {x : Ex} (he : e ≤ n) (h : pEx t e p = .inl (x, q)) : fE n x := by
  unfold pEx at h
  obtain ⟨nm, p1, h1, h⟩ := bR_inl h
  obtain ⟨k, p2, h2, h⟩ := bR_inl h
  unfold pNm at h1
  obtain ⟨B, p5, h5, h1⟩ := bR_inl h1
  have a5 := nU_l h5
  split at h1
  next hB =>
    cases h1
    split at h
    next hk =>
      unfold pEx3 at h
      obtain ⟨c, p3, h3, h⟩ := bR_inl h
      cases h
      exact ⟨by show p5 + B ≤ n; omega, hk, (nU_l h3).2.1⟩
    · cases h
  · cases h1
theorem pFs_f {t : Nat → UInt8} {e : Nat} : ∀ (k p : Nat) (l : List Nat) (q : Nat), pFs t e k p = .inl (l, q) → ∀ y ∈ l, y < 2 ^ 32
  | 0, p, l, q, h => by
    cases h
    intro y hy
    cases hy
  | k + 1, p, l, q, h => by
    rw [pFs] at h
    obtain ⟨x, q1, h1, h⟩ := bR_inl h
    obtain ⟨l2, q2, h2, h⟩ := bR_inl h
    cases h
    intro y hy
    rcases List.mem_cons.mp hy with rfl | z
    · exact (nU_l h1).2.1
    · exact pFs_f k _ _ _ h2 y z
theorem pEl_f {t : Nat → UInt8} {e p q : Nat} {x : El} (h : pEl t e p = .inl (x, q)) : fL x := by
  have h60 := (pEl_le h).2
  unfold pEl at h
  obtain ⟨z, p1, h1, h⟩ := bR_inl h
  split at h
  · unfold pEl2 at h
    obtain ⟨c, p2, h2, h⟩ := bR_inl h
    unfold pEl3 at h
    obtain ⟨m, p3, h3, h⟩ := bR_inl h
    obtain ⟨l, p4, h4, h⟩ := bR_inl h
    cases h
    exact ⟨pCo_f h2, h60, pFs_f _ _ _ _ h4⟩
  · cases h
theorem pSe_f {t : Nat → UInt8} {n : Nat} {m m2 : Md} {id q e q2 : Nat} (he : e ≤ n) (h : pSe t m id q e = .inl (m2, q2)) (hl : fcM t n m) : fcM t n m2 := by
  obtain ⟨lT, lU, lA, lM, lG, lE, lL⟩ := hl
  unfold pSe at h
  split at h
  · obtain ⟨_, _, _, h⟩ := bR_inl h
    cases h
    exact ⟨lT, lU, lA, lM, lG, lE, lL⟩
  split at h
  · obtain ⟨l, q1, hv, h⟩ := bR_inl h
    cases h
    exact ⟨pVc_all (fun _ _ _ h => pTy_f he h) hv, lU, lA, lM, lG, lE, lL⟩
  split at h
  · obtain ⟨l, q1, hv, h⟩ := bR_inl h
    cases h
    exact ⟨lT, pVc_all (fun _ _ _ h => (nU_l h).2.1) hv, lA, lM, lG, lE, lL⟩
  split at h
  · obtain ⟨l, q1, hv, h⟩ := bR_inl h
    cases h
    exact ⟨lT, lU, pVc_all (fun _ _ _ h => pTab_f h) hv, lM, lG, lE, lL⟩
  split at h
  · obtain ⟨l, q1, hv, h⟩ := bR_inl h
    cases h
    exact ⟨lT, lU, lA, pVc_all (fun _ _ _ h => pLi_f h) hv, lG, lE, lL⟩
  split at h
  · obtain ⟨l, q1, hv, h⟩ := bR_inl h
    cases h
    exact ⟨lT, lU, lA, lM, pVc_all (fun _ _ _ h => pGl_f h) hv, lE, lL⟩
  split at h
  · obtain ⟨l, q1, hv, h⟩ := bR_inl h
    cases h
    exact ⟨lT, lU, lA, lM, lG, pVc_all (fun _ _ _ h => pEx_f he h) hv, lL⟩
  split at h
  · obtain ⟨l, q1, hv, h⟩ := bR_inl h
    cases h
    exact ⟨lT, lU, lA, lM, lG, lE, pVc_all (fun _ _ _ h => pEl_f h) hv⟩
  obtain ⟨x, q1, hv, h⟩ := bR_inl h
  cases h
  exact ⟨lT, lU, lA, lM, lG, lE, lL⟩
theorem pMd_f {t : Nat → UInt8} {n : Nat} : ∀ (f last p : Nat) (m m2 : Md) (q : Nat), pMd t n f last m p = .inl (m2, q) → fcM t n m → fcM t n m2
  | 0, _, _, _, _, _, h, _ => by cases h
  | f + 1, last, p, m, m2, q, h, hm => by
    rw [pMd] at h
    split at h
    · cases h
      exact hm
    · obtain ⟨x, q1, h1, h⟩ := bR_inl h
      obtain ⟨m3, q3, h3, h⟩ := bR_inl h
      split at h
      · cases h
      · have := pId_l (id := x.1) (B := x.2) h1
        exact pMd_f f _ _ _ _ _ h (pSe_f (by omega) h3 hm)
theorem pMo_f {t : Nat → UInt8} {n q : Nat} {m : Md} (h : pMo t n = .inl (m, q)) : fcM t n m ∧ (mdU m).length = (mdC m).1.length := by
  unfold pMo at h
  obtain ⟨_, p, h1, h⟩ := bR_inl h
  obtain ⟨m1, p1, h2, h⟩ := bR_inl h
  have h3 := pMd_f _ _ _ _ _ _ h2 ⟨fun x hx => (by cases hx), fun x hx => (by cases hx), fun x hx => (by cases hx), fun x hx => (by cases hx), fun x hx => (by cases hx), fun x hx => (by cases hx), fun x hx => (by cases hx)⟩
  unfold pEnd at h
  split at h
  next hl =>
    cases h
    exact ⟨h3, hl⟩
  · cases h
