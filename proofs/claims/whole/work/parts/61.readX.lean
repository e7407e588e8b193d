/-! READING OF A WHOLE MODULE: the class -/
theorem pMn_len {α : Type} {P : Nat → Rr α} : ∀ (k : Nat) (l : List α) (p : Nat) (l2 : List α) (q : Nat), pMn P k l p = .inl (l2, q) → l2.length = l.length + k
  | 0, l, p, l2, q, h => by
    cases h
    rfl
  | k + 1, l, p, l2, q, h => by
    rw [pMn] at h
    obtain ⟨x, q1, h1, h⟩ := bR_inl h
    have := pMn_len k _ _ _ _ h
    rw [List.length_append] at this
    show l2.length = l.length + (k + 1)
    simp at this
    omega
theorem pVc_len {α : Type} {t : Nat → UInt8} {e : Nat} {P : Nat → Rr α} {p q : Nat} {l : List α} (h : pVc t e P p = .inl (l, q)) : l.length ≤ 60 := by
  unfold pVc at h
  obtain ⟨m, q1, h1, h⟩ := bR_inl h
  have := pMn_len _ _ _ _ _ h
  have := (nV_l h1).2.1
  simp at *
  omega
theorem pCds_len {t : Nat → UInt8} {e : Nat} : ∀ (k : Nat) (F : List Fi) (C : List In) (p : Nat) (x : List Fi × List In) (q : Nat), pCds t e k F C p = .inl (x, q) → x.1.length = F.length + k
  | 0, F, C, p, x, q, h => by
    cases h
    rfl
  | k + 1, F, C, p, x, q, h => by
    rw [pCds] at h
    obtain ⟨y, q1, h1, h⟩ := bR_inl h
    have := pCds_len k _ _ _ _ _ h
    rw [List.length_append] at this
    simp at this
    omega
theorem pCS_len {t : Nat → UInt8} {e p q : Nat} {x : List Fi × List In} (h : pCS t e p = .inl (x, q)) : x.1.length ≤ 60 := by
  unfold pCS at h
  obtain ⟨m, q1, h1, h⟩ := bR_inl h
  have := pCds_len _ _ _ _ _ _ h
  have := (nV_l h1).2.1
  simp at *
  omega
/-- sixty of each at most -/
def lenM (m : Md) : Prop := (mdT m).length ≤ 60 ∧ (mdU m).length ≤ 60 ∧ (mdA m).length ≤ 60 ∧ (mdM m).length ≤ 60 ∧ (mdG m).length ≤ 60 ∧ (mdE m).length ≤ 60 ∧ (mdL m).length ≤ 60 ∧ (mdC m).1.length ≤ 60
theorem pSe_l {t : Nat → UInt8} {m m2 : Md} {id q e q2 last : Nat} (h : pSe t m id q e = .inl (m2, q2)) (hl : lenM m) (he : emp m last) (hid : id = 0 ∨ last < id) (h10 : id = 0 ∨ id = 1 ∨ id = 3 ∨ id = 4 ∨ id = 5 ∨ id = 6 ∨ id = 7 ∨ id = 9 ∨ id = 10) : lenM m2 ∧ emp m2 (if id = 0 then last else id) := by
  obtain ⟨lT, lU, lA, lM, lG, lE, lL, lC⟩ := hl
  obtain ⟨eT, eU, eA, eM, eG, eE, eL, eC⟩ := he
  unfold pSe at h
  by_cases c0 : id = 0
  · rw [if_pos c0] at h
    obtain ⟨_, _, _, h⟩ := bR_inl h
    cases h
    rw [if_pos c0]
    exact ⟨⟨lT, lU, lA, lM, lG, lE, lL, lC⟩, eT, eU, eA, eM, eG, eE, eL, eC⟩
  rw [if_neg c0] at h ⊢
  by_cases c1 : id = 1
  · rw [if_pos c1] at h
    obtain ⟨l, q1, hv, h⟩ := bR_inl h
    cases h
    refine ⟨⟨pVc_len hv, lU, lA, lM, lG, lE, lL, lC⟩, fun z => absurd z (by omega), fun z => eU (by omega), fun z => eA (by omega), fun z => eM (by omega), fun z => eG (by omega), fun z => eE (by omega), fun z => eL (by omega), fun z => eC (by omega)⟩
  rw [if_neg c1] at h
  by_cases c3 : id = 3
  · rw [if_pos c3] at h
    obtain ⟨l, q1, hv, h⟩ := bR_inl h
    cases h
    refine ⟨⟨lT, pVc_len hv, lA, lM, lG, lE, lL, lC⟩, fun z => eT (by omega), fun z => absurd z (by omega), fun z => eA (by omega), fun z => eM (by omega), fun z => eG (by omega), fun z => eE (by omega), fun z => eL (by omega), fun z => eC (by omega)⟩
  rw [if_neg c3] at h
  by_cases c4 : id = 4
  · rw [if_pos c4] at h
    obtain ⟨l, q1, hv, h⟩ := bR_inl h
    cases h
    refine ⟨⟨lT, lU, pVc_len hv, lM, lG, lE, lL, lC⟩, fun z => eT (by omega), fun z => eU (by omega), fun z => absurd z (by omega), fun z => eM (by omega), fun z => eG (by omega), fun z => eE (by omega), fun z => eL (by omega), fun z => eC (by omega)⟩
  rw [if_neg c4] at h
  by_cases c5 : id = 5
  · rw [if_pos c5] at h
    obtain ⟨l, q1, hv, h⟩ := bR_inl h
    cases h
    refine ⟨⟨lT, lU, lA, pVc_len hv, lG, lE, lL, lC⟩, fun z => eT (by omega), fun z => eU (by omega), fun z => eA (by omega), fun z => absurd z (by omega), fun z => eG (by omega), fun z => eE (by omega), fun z => eL (by omega), fun z => eC (by omega)⟩
  rw [if_neg c5] at h
  by_cases c6 : id = 6
  · rw [if_pos c6] at h
    obtain ⟨l, q1, hv, h⟩ := bR_inl h
    cases h
    refine ⟨⟨lT, lU, lA, lM, pVc_len hv, lE, lL, lC⟩, fun z => eT (by omega), fun z => eU (by omega), fun z => eA (by omega), fun z => eM (by omega), fun z => absurd z (by omega), fun z => eE (by omega), fun z => eL (by omega), fun z => eC (by omega)⟩
  rw [if_neg c6] at h
  by_cases c7 : id = 7
  · rw [if_pos c7] at h
    obtain ⟨l, q1, hv, h⟩ := bR_inl h
    cases h
    refine ⟨⟨lT, lU, lA, lM, lG, pVc_len hv, lL, lC⟩, fun z => eT (by omega), fun z => eU (by omega), fun z => eA (by omega), fun z => eM (by omega), fun z => eG (by omega), fun z => absurd z (by omega), fun z => eL (by omega), fun z => eC (by omega)⟩
  rw [if_neg c7] at h
  by_cases c9 : id = 9
  · rw [if_pos c9] at h
    obtain ⟨l, q1, hv, h⟩ := bR_inl h
    cases h
    refine ⟨⟨lT, lU, lA, lM, lG, lE, pVc_len hv, lC⟩, fun z => eT (by omega), fun z => eU (by omega), fun z => eA (by omega), fun z => eM (by omega), fun z => eG (by omega), fun z => eE (by omega), fun z => absurd z (by omega), fun z => eC (by omega)⟩
  rw [if_neg c9] at h
  obtain ⟨x, q1, hv, h⟩ := bR_inl h
  cases h
  have c10 : id = 10 := by omega
  refine ⟨⟨lT, lU, lA, lM, lG, lE, lL, pCS_len hv⟩, fun z => eT (by omega), fun z => eU (by omega), fun z => eA (by omega), fun z => eM (by omega), fun z => eG (by omega), fun z => eE (by omega), fun z => eL (by omega), fun z => absurd z (by omega)⟩
theorem pTs_le {t : Nat → UInt8} {e : Nat} : ∀ (k p : Nat) (u : Unit) (q : Nat), p ≤ e → pTs t e k p = .inl (u, q) → q ≤ e
  | 0, p, u, q, hp, h => by
    cases h
    exact hp
  | k + 1, p, u, q, hp, h => by
    rw [pTs] at h
    obtain ⟨x, q1, h1, h⟩ := bR_inl h
    have := nT_l h1
    exact pTs_le k q1 u q (by omega) h
theorem pTy_le {t : Nat → UInt8} {e p q : Nat} {x : Ty} (h : pTy t e p = .inl (x, q)) : q ≤ e := by
  unfold pTy at h
  obtain ⟨_, p1, h1, h⟩ := bR_inl h
  obtain ⟨m, p2, h2, h⟩ := bR_inl h
  obtain ⟨_, p3, h3, h⟩ := bR_inl h
  unfold pTy3 at h
  obtain ⟨v, p4, h4, h⟩ := bR_inl h
  have := nV_l h4
  unfold pTy4 at h
  split at h
  · split at h
    · obtain ⟨g, p5, h5, h⟩ := bR_inl h
      cases h
      have := nT_l h5
      omega
    · cases h
      omega
  · cases h
theorem pLi_le {t : Nat → UInt8} {e p q : Nat} {x : Li} (h : pLi t e p = .inl (x, q)) : q ≤ e := by
  unfold pLi at h
  obtain ⟨fl, p1, h1, h⟩ := bR_inl h
  split at h
  · obtain ⟨a, p2, h2, h⟩ := bR_inl h
    have := nU_q h2
    unfold pLi2 at h
    split at h
    · obtain ⟨b, p3, h3, h⟩ := bR_inl h
      cases h
      exact (nU_q h3).2
    · cases h
      omega
  · cases h
theorem pTab_le {t : Nat → UInt8} {e p q : Nat} {x : Li} (h : pTab t e p = .inl (x, q)) : q ≤ e := by
  unfold pTab at h
  obtain ⟨_, p1, h1, h⟩ := bR_inl h
  exact pLi_le h
theorem pCo_le {t : Nat → UInt8} {e p q : Nat} {c : Nat × Int64} (h : pCo t e p = .inl (c, q)) : p < q ∧ q ≤ e := by
  unfold pCo at h
  obtain ⟨op, q1, h5, h⟩ := bR_inl h
  obtain ⟨v, q2, h6, h⟩ := bR_inl h
  cases h
  have := pOp_lt h5
  have := pCv_le h6
  omega
theorem pGl_le {t : Nat → UInt8} {e p q : Nat} {x : Gl} (h : pGl t e p = .inl (x, q)) : q ≤ e := by
  unfold pGl at h
  obtain ⟨ty, p1, h1, h⟩ := bR_inl h
  obtain ⟨st, p2, h2, h⟩ := bR_inl h
  split at h
  · unfold pGl3 at h
    obtain ⟨c, p3, h3, h⟩ := bR_inl h
    cases h
    exact (pCo_le h3).2
  · cases h
theorem pEx_le {t : Nat → UInt8} {e p q : Nat} {x : Ex} (h : pEx t e p = .inl (x, q)) : q ≤ e := by
  unfold pEx at h
  obtain ⟨ty, p1, h1, h⟩ := bR_inl h
  obtain ⟨st, p2, h2, h⟩ := bR_inl h
  split at h
  · unfold pEx3 at h
    obtain ⟨c, p3, h3, h⟩ := bR_inl h
    cases h
    exact (nU_q h3).2
  · cases h
theorem pEl_le2 {t : Nat → UInt8} {e p q : Nat} {x : El} (h : pEl t e p = .inl (x, q)) : q ≤ e := by
  unfold pEl at h
  obtain ⟨z, p1, h1, h⟩ := bR_inl h
  split at h
  · unfold pEl2 at h
    obtain ⟨c, p2, h2, h⟩ := bR_inl h
    unfold pEl3 at h
    obtain ⟨m, p3, h3, h⟩ := bR_inl h
    obtain ⟨l, p4, h4, h⟩ := bR_inl h
    cases h
    have := nV_l h3
    have h5 := pFs_len _ _ _ _ h4
    by_cases hm : 0 < m
    · exact h5.2.2 hm
    · have : m = 0 := by omega
      subst this
      cases h4
      omega
  · cases h
theorem pMn_le {α : Type} {P : Nat → Rr α} {e : Nat} (hP : ∀ p x q, P p = .inl (x, q) → q ≤ e) : ∀ (k : Nat) (l : List α) (p : Nat) (l2 : List α) (q : Nat), p ≤ e → pMn P k l p = .inl (l2, q) → q ≤ e
  | 0, l, p, l2, q, hp, h => by
    cases h
    exact hp
  | k + 1, l, p, l2, q, hp, h => by
    rw [pMn] at h
    obtain ⟨x, q1, h1, h⟩ := bR_inl h
    exact pMn_le hP k _ _ _ _ (hP _ _ _ h1) h
theorem pVc_le {α : Type} {t : Nat → UInt8} {e : Nat} {P : Nat → Rr α} (hP : ∀ p x q, P p = .inl (x, q) → q ≤ e) {p q : Nat} {l : List α} (h : pVc t e P p = .inl (l, q)) : q ≤ e := by
  unfold pVc at h
  obtain ⟨m, q1, h1, h⟩ := bR_inl h
  exact pMn_le hP _ _ _ _ _ (nV_l h1).2.2.2 h
theorem pCd_le {t : Nat → UInt8} {e p q : Nat} {C : List In} {x : Fi × List In} (h : pCd t e C p = .inl (x, q)) : q ≤ e := by
  unfold pCd at h
  obtain ⟨B, q1, h1, h⟩ := bR_inl h
  have hz : q1 + B ≤ e := by
    unfold rZ at h1
    split at h1
    next v q2 hq =>
      obtain ⟨B2, h3, rfl, h4, h5⟩ := rU_nat hq
      split at h1
      · cases h1
        omega
      · cases h1
    · cases h1
  unfold pCd2 at h
  obtain ⟨m, q2, h2, h⟩ := bR_inl h
  obtain ⟨L, q3, h3, h⟩ := bR_inl h
  unfold pCd3 at h
  obtain ⟨C2, q4, h4, h⟩ := bR_inl h
  have := pBo_le _ _ _ _ _ h4
  split at h
  · cases h
  · cases h
    omega
theorem pCds_le {t : Nat → UInt8} {e : Nat} : ∀ (k : Nat) (F : List Fi) (C : List In) (p : Nat) (x : List Fi × List In) (q : Nat), p ≤ e → pCds t e k F C p = .inl (x, q) → q ≤ e
  | 0, F, C, p, x, q, hp, h => by
    cases h
    exact hp
  | k + 1, F, C, p, x, q, hp, h => by
    rw [pCds] at h
    obtain ⟨y, q1, h1, h⟩ := bR_inl h
    exact pCds_le k _ _ _ _ _ (pCd_le h1) h
theorem pSe_le {t : Nat → UInt8} {m m2 : Md} {id q e q2 : Nat} (_hq : q ≤ e) (h : pSe t m id q e = .inl (m2, q2)) : q2 ≤ e := by
  unfold pSe at h
  split at h
  · obtain ⟨_, _, _, h⟩ := bR_inl h
    cases h
    exact Nat.le_refl _
  split at h
  · obtain ⟨l, q1, hv, h⟩ := bR_inl h
    cases h
    exact pVc_le (fun _ _ _ => pTy_le) hv
  split at h
  · obtain ⟨l, q1, hv, h⟩ := bR_inl h
    cases h
    exact pVc_le (fun _ _ _ h => (nU_q h).2) hv
  split at h
  · obtain ⟨l, q1, hv, h⟩ := bR_inl h
    cases h
    exact pVc_le (fun _ _ _ => pTab_le) hv
  split at h
  · obtain ⟨l, q1, hv, h⟩ := bR_inl h
    cases h
    exact pVc_le (fun _ _ _ => pLi_le) hv
  split at h
  · obtain ⟨l, q1, hv, h⟩ := bR_inl h
    cases h
    exact pVc_le (fun _ _ _ => pGl_le) hv
  split at h
  · obtain ⟨l, q1, hv, h⟩ := bR_inl h
    cases h
    exact pVc_le (fun _ _ _ => pEx_le) hv
  split at h
  · obtain ⟨l, q1, hv, h⟩ := bR_inl h
    cases h
    exact pVc_le (fun _ _ _ => pEl_le2) hv
  obtain ⟨l, q1, hv, h⟩ := bR_inl h
  cases h
  unfold pCS at hv
  obtain ⟨m, q3, h1, hv⟩ := bR_inl hv
  exact pCds_le _ _ _ _ _ _ (nV_l h1).2.2.2 hv
theorem pId_l {t : Nat → UInt8} {n last p q id B : Nat} (h : pId t n last p = .inl ((id, B), q)) : (id = 0 ∨ last < id) ∧ (id = 0 ∨ id = 1 ∨ id = 3 ∨ id = 4 ∨ id = 5 ∨ id = 6 ∨ id = 7 ∨ id = 9 ∨ id = 10) ∧ p + 2 ≤ q ∧ q + B ≤ n := by
  unfold pId at h
  obtain ⟨id2, q1, h1, h⟩ := bR_inl h
  have h2 := nN_l h1
  split at h
  · cases h
  · split at h
    · cases h
    · obtain ⟨B2, q2, h3, h⟩ := bR_inl h
      cases h
      have := rZ_l2 h3
      omega
def pMd (t : Nat → UInt8) (n : Nat) : Nat → Nat → Md → Nat → Rr Md
  | 0, _, _, _ => .inr (0, 0)
  | f + 1, last, m, p => if n ≤ p then .inl (m, p) else bR (pId t n last p) fun x q => bR (pSe t m x.1 q (q + x.2)) fun m2 q2 => if q2 < q + x.2 then .inr (-1, nI q2) else pMd t n f (if x.1 = 0 then last else x.1) m2 q2
def pEnd (n : Nat) (m : Md) (q : Nat) : Rr Md := if (mdU m).length = (mdC m).1.length then .inl (m, q) else .inr (-1, nI n)
def pHd (t : Nat → UInt8) (n : Nat) : Nat → Nat → Nat → Rr Unit
  | 0, _, p => .inl ((), p)
  | r + 1, k, p => bR (rX (fk_hd k) t n p) fun _ q => pHd t n r (k + 1) q
def md0 : Md := ([], [], [], [], [], [], [], ([], []))
def pMo (t : Nat → UInt8) (n : Nat) : Rr Md := bR (pHd t n 8 0 0) fun _ p => bR (pMd t n 4000 0 md0 p) fun m q => pEnd n m q
section RDX
variable {t : Nat → UInt8} {n e d p q : Nat} {σ : fkS} {m : Md}
theorem w_rd76z {w pl : Int32} {v4 : Int32} (h : ZX t n n w pl σ) : Wq 16 (d + 7) 76 [some (.ref 45), some (.ref 24), none, some (.int (nI n)), some (.int v4), none] [] σ (Qv fun σ' => σ' = σ) := by
  have fin : (σ.1 24 3 = σ.1 36 0 → (Qv fun σ' => σ' = σ) none σ) ∧ (¬ σ.1 24 3 = σ.1 36 0 → Dv (d + 6) 22 [.ref 46, .int (-1 : Int32), .int (nI n)] σ (fun σ1 => (Qv fun σ' => σ' = σ) none (sW σ1 σ))) := by
    refine ⟨fun _ => rfl, fun _ => zFail h ?_⟩
    simp only [sW_id]
    rfl
  refine S_ModuleReader_read_76 ⟨fun _ => fin, fun _ => zFine h ⟨fun _ => ?_, fun z => absurd rfl z⟩⟩
  simp only [sW_id]
  exact fin
theorem w_rd76 : ∀ (f k last p : Nat) (m : Md) (σ : fkS), k + f = 4000 → k + 8 ≤ p → last ≤ 11 → σ.1 45 2 = nI last → RX t n n p σ → σ.1 46 3 = 0 → DX m σ → emp m last → lenM m → Wq 16 (d + 7) 76 [some (.ref 45), some (.ref 24), none, some (.int (nI n)), some (.int (nI k)), none] [] σ (Qv fun σ' => σ'.2.2 = σ.2.2 ∧ YR t n n sRY DX (bR (pMd t n f last m p) (pEnd n)) σ σ')
  | 0, k, last, p, m, σ, hk, hp, _, _, h, hf, hD, he, hl => by
    have := h.2.2.2.2.2.2.1
    omega
  | f + 1, k, last, p, m, σ, hk, hp, hla, h45, h, hf, hD, he, hl => by
    obtain ⟨h1, h2, h3, h4, h5, h6, h7, -⟩ := id h
    refine S_ModuleReader_read_76 ⟨fun z => absurd z (nI_ge (b := 4000) (by omega) (by decide)), fun _ => kFine h hf ⟨fun z => absurd z (by decide), fun _ => ?_⟩⟩
    simp only [sW_id]
    rw [h6]
    refine ⟨fun z => ?_, fun z => ?_⟩
    · have hz : n ≤ p := (nI_leI (by omega) (by omega)).mp z
      have hc1 : σ.1 24 3 = nI (mdU m).length := hD.2.1.1
      have hc2 : σ.1 36 0 = nI (mdC m).1.length := hD.2.2.2.2.2.2.2.1.1
      have l1 := hl.2.1
      have l2 := hl.2.2.2.2.2.2.2
      have hm : bR (pMd t n (f + 1) last m p) (pEnd n) = pEnd n m p := by rw [pMd, if_pos hz]; rfl
      rw [hm, hc1, hc2]
      unfold pEnd
      refine ⟨fun y => ⟨rfl, Fr.rf, ?_⟩, fun y => ?_⟩
      · rw [if_pos ((nI_eq (by omega) (by omega)).mp y)]
        exact ⟨hD, h, hf⟩
      · rw [if_neg (fun w => y (by rw [w]))]
        refine kFail h hf (by decide) fun σ1 e1 hZ f1 => ?_
        simp only [sW_eq e1]
        exact ⟨e1, f1.rdX.rdY, hZ⟩
    · have hz : ¬ n ≤ p := fun y => z (nI_le y (by omega))
      have hm : pMd t n (f + 1) last m p = bR (pId t n last p) fun x q => bR (pSe t m x.1 q (q + x.2)) fun m2 q2 => if q2 < q + x.2 then .inr (-1, nI q2) else pMd t n f (if x.1 = 0 then last else x.1) m2 q2 := by rw [pMd, if_neg hz]
      have zend : ∀ (w pl : Int32) (x : Int32) (σ1 : fkS), pMd t n (f + 1) last m p = .inr (w, pl) → σ1.2.2 = σ.2.2 → Fr sRY σ σ1 → ZX t n n w pl σ1 → Wq 16 (d + 7) 76 [some (.ref 45), some (.ref 24), none, some (.int (nI n)), some (.int x), none] [] σ1 (Qv fun σ' => σ'.2.2 = σ.2.2 ∧ YR t n n sRY DX (bR (pMd t n (f + 1) last m p) (pEnd n)) σ σ') := by
        intro w pl x σ1 hR e1 f1 hZ
        refine (w_rd76z (d := d) hZ).mono fun x σ2 hx => ?_
        obtain ⟨rfl, rfl⟩ := Qv_s hx
        refine ⟨e1, f1, ?_⟩
        rw [hR]
        exact hZ
      refine c_sectionId (d := d + 2) hla h hf h45 (fun id B q σ1 hI e1 f1 hR1 hqB hpq hf1 h451 => ?_) fun w pl r σ1 hI e1 f1 hZ => ?_
      · simp only [sW_eq e1]
        obtain ⟨i1, i2, i3, i4⟩ := pId_l hI
        have hD1 : DX m σ1 := hD.fr f1
        -- what comes of the section
        have next : ∀ (σ2 : fkS), σ2.2.2 = σ1.2.2 → YR t n (q + B) sRX DX (pSe t m id q (q + B)) σ1 σ2 → (∀ m2 q2, pSe t m id q (q + B) = .inl (m2, q2) → q2 ≤ q + B) → Dv (d + 6) 46 [.ref 46, .int (nI n)] σ2 (fun σ9 => Wq 16 (d + 7) 76 [some (.ref 45), some (.ref 24), none, some (.int (nI n)), some (.int (nI k + (1 : Int32))), none] [] (sW σ9 σ) (Qv fun σ' => σ'.2.2 = σ.2.2 ∧ YR t n n sRY DX (bR (pMd t n (f + 1) last m p) (pEnd n)) σ σ')) := by
          intro σ2 e2 hy hq2
          obtain ⟨f2, hy⟩ := hy
          have h452 : σ2.1 45 2 = σ1.1 45 2 := (f2 45 2 rfl).1
          cases hS : pSe t m id q (q + B) with
          | inl y =>
            obtain ⟨m2, q2⟩ := y
            rw [hS] at hy
            obtain ⟨u1, u2, u3⟩ := hy
            have hle := hq2 m2 q2 hS
            obtain ⟨s1, s2⟩ := pSe_l hS hl he i1 i2
            refine k_widen u2 u3 (Nat.le_refl n) hle (fun σ3 hlt e3 hR3 hf3 hσ3 => ?_) fun σ3 hlt e3 hZ3 f3 => ?_
            · have hmd : pMd t n (f + 1) last m p = pMd t n f (if id = 0 then last else id) m2 q2 := by
                rw [hm, hI]
                show bR (pSe t m id q (q + B)) _ = _
                rw [hS]
                show (if q2 < q + B then _ else _) = _
                rw [if_neg hlt]
              rw [hmd, show nI k + (1 : Int32) = nI (k + 1) from nI_1 k]
              simp only [sW_eq (show σ3.2.2 = σ.2.2 from (e3.trans e2).trans e1)]
              have f3 : Fr sRd σ2 σ3 := by subst hσ3; exact Fr.rf.sI rfl
              have h453 : σ3.1 45 2 = nI (if id = 0 then last else id) := by
                subst hσ3
                rw [sI_o (by decide), h452]
                exact h451
              refine (w_rd76 f (k + 1) (if id = 0 then last else id) q2 m2 σ3 (by omega) (by omega) (by split <;> omega) h453 hR3 hf3 (u1.fr f3) s2 s1).mono fun y σ4 hx => ?_
              obtain ⟨rfl, e4, f4, hu⟩ := Qv_s hx
              exact ⟨e4.trans ((e3.trans e2).trans e1), ((f1.rdY.tr f2.ry).tr f3.rdY).tr f4, hu⟩
            · have hmd : pMd t n (f + 1) last m p = .inr (-1, nI q2) := by
                rw [hm, hI]
                show bR (pSe t m id q (q + B)) _ = _
                rw [hS]
                show (if q2 < q + B then _ else _) = _
                rw [if_pos hlt]
              rw [sW_eq (show (sI σ3 46 2 (nI n)).2.2 = σ.2.2 from (e3.trans e2).trans e1)]
              exact zend _ _ _ _ hmd ((e3.trans e2).trans e1) (((f1.rdY.tr f2.ry).tr f3.rdX.rdY).sI rfl) hZ3
          | inr y =>
            obtain ⟨w, pl⟩ := y
            rw [hS] at hy
            have hmd : pMd t n (f + 1) last m p = .inr (w, pl) := by
              rw [hm, hI]
              show bR (pSe t m id q (q + B)) _ = _
              rw [hS]
              rfl
            refine z_widen hy (Nat.le_refl n) fun hZ3 => ?_
            rw [sW_eq (show (sI σ2 46 2 (nI n)).2.2 = σ.2.2 from e2.trans e1)]
            exact zend _ _ _ _ hmd (e2.trans e1) ((f1.rdY.tr f2.ry).sI rfl) hZ3
        have hle : ∀ m2 q2, pSe t m id q (q + B) = .inl (m2, q2) → q2 ≤ q + B := fun m2 q2 => pSe_le (by omega)
        have go47 : id ≠ 10 → Dv (d + 6) 47 [.ref 45, .ref 24, .int (nI id)] σ1 (fun σ' => YR t n (q + B) sRX DX (pSe t m id q (q + B)) σ1 σ') := by
          intro n10
          have hq4 := hR1.2.2.1
          rcases i2 with rfl | rfl | rfl | rfl | rfl | rfl | rfl | rfl | rfl
          · exact c_sec0 (d := d + 1) hR1 hf1 hD1 (by omega)
          · exact c_sec1 (d := d + 1) hR1 hf1 hD1 (he.1 (by omega))
          · exact c_sec3 (d := d + 1) hR1 hf1 hD1 (he.2.1 (by omega))
          · exact c_sec4 (d := d + 1) hR1 hf1 hD1 (he.2.2.1 (by omega))
          · exact c_sec5 (d := d + 1) hR1 hf1 hD1 (he.2.2.2.1 (by omega))
          · exact c_sec6 (d := d + 1) hR1 hf1 hD1 (he.2.2.2.2.1 (by omega))
          · exact c_sec7 (d := d + 1) hR1 hf1 hD1 (he.2.2.2.2.2.1 (by omega))
          · exact c_sec9 (d := d + 1) hR1 hf1 hD1 (he.2.2.2.2.2.2.1 (by omega)) (by omega)
          · exact absurd rfl n10
        refine ⟨fun z => ?_, fun z => ?_⟩
        · have n10 : id ≠ 10 := fun y => z (by rw [y]; rfl)
          refine (go47 n10).mono fun x σ2 hx => ?_
          obtain ⟨rfl, e2, hy⟩ := Qv_s hx
          refine ⟨e2, ?_⟩
          simp only [sW_eq (show σ2.2.2 = σ.2.2 from e2.trans e1)]
          exact next σ2 e2 hy hle
        · have e10 : id = 10 := (op_nat (by omega) (by decide) rfl).mp z
          subst e10
          refine (c_sec10 (d := d) hqB hR1 hf1 hD1 (he.2.2.2.2.2.2.2 (by omega)) (by omega)).mono fun x σ2 hx => ?_
          obtain ⟨rfl, e2, hy⟩ := Qv_s hx
          refine ⟨e2, ?_⟩
          simp only [sW_eq (show σ2.2.2 = σ.2.2 from e2.trans e1)]
          exact next σ2 e2 hy hle
      · simp only [sW_eq e1]
        have hmd : pMd t n (f + 1) last m p = .inr (w, pl) := by
          rw [hm, hI]
          rfl
        have fin : ∀ σ2, σ2.2.2 = σ.2.2 → Fr sRY σ σ2 → ZX t n n w pl σ2 → Dv (d + 6) 46 [.ref 46, .int (nI n)] σ2 (fun σ9 => Wq 16 (d + 7) 76 [some (.ref 45), some (.ref 24), none, some (.int (nI n)), some (.int (nI k + (1 : Int32))), none] [] (sW σ9 σ) (Qv fun σ' => σ'.2.2 = σ.2.2 ∧ YR t n n sRY DX (bR (pMd t n (f + 1) last m p) (pEnd n)) σ σ')) := by
          intro σ2 e2 f2 hZ2
          refine z_widen hZ2 (Nat.le_refl n) fun hZ3 => ?_
          rw [sW_eq (show (sI σ2 46 2 (nI n)).2.2 = σ.2.2 from e2)]
          exact zend _ _ _ _ hmd e2 (f2.sI rfl) hZ3
        refine ⟨fun _ => c_contentz hZ ?_, fun _ => c_codesz hZ ?_⟩
        · simp only [sW_eq e1]
          exact fin σ1 e1 f1.rdY hZ
        · simp only [sW_eq e1]
          exact fin σ1 e1 f1.rdY hZ
end RDX
