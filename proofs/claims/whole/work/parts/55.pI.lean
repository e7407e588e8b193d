/-! CODES: what an INSTRUCTION that was read is like -/
theorem bR_inl {α β : Type} {R : Rr α} {f : α → Nat → Rr β} {b : β} {q : Nat} (h : bR R f = .inl (b, q)) : ∃ a q1, R = .inl (a, q1) ∧ f a q1 = .inl (b, q) := by
  unfold bR at h
  split at h
  next a q1 => exact ⟨a, q1, rfl, h⟩
  · cases h
theorem nU_q {t : Nat → UInt8} {e p q B : Nat} (h : nU t e p = .inl (B, q)) : p < q ∧ q ≤ e := (nU_l h).2.2
theorem rX_q {v : Int32} {t : Nat → UInt8} {e p q : Nat} {u : Unit} (h : rX v t e p = .inl (u, q)) : q = p + 1 ∧ p < e := by
  unfold rX at h
  split at h
  next hz =>
    cases h
    exact ⟨rfl, hz.1⟩
  · cases h
theorem pOs_le {t : Nat → UInt8} {e p op q q2 : Nat} {o : Od} (hq : q ≤ e) (h : pOs t e p op q = .inl (o, q2)) : q + o.2.2.length ≤ q2 ∧ q2 ≤ e := by
  unfold pOs at h
  split at h
  · cases h
    exact ⟨Nat.le_refl _, hq⟩
  · split at h
    · cases h
    · split at h
      · unfold pO14 at h
        obtain ⟨m, q1, h1, h⟩ := bR_inl h
        obtain ⟨l, q3, h2, h⟩ := bR_inl h
        cases h
        have h3 := (nV_l h1).2.2
        have h4 := pFs_len _ _ _ _ h2
        exact ⟨by show q + l.length ≤ q2; omega, h4.2.2 (by omega)⟩
      · unfold pOn at h
        split at h
        · obtain ⟨B, q1, h1, h⟩ := bR_inl h
          cases h
          have := nU_q h1
          exact ⟨by show q + 1 ≤ q2; omega, this.2⟩
        · split at h
          · obtain ⟨B, q1, h1, h⟩ := bR_inl h
            cases h
            have := nU_q h1
            exact ⟨by show q + 0 ≤ q2; omega, this.2⟩
          · split at h
            · unfold pO17 at h
              obtain ⟨B, q1, h1, h⟩ := bR_inl h
              obtain ⟨_, q3, h2, h⟩ := bR_inl h
              cases h
              have := nU_q h1
              have := rX_q h2
              exact ⟨by show q + 0 ≤ q2; omega, by omega⟩
            · split at h
              · obtain ⟨_, q3, h2, h⟩ := bR_inl h
                cases h
                have := rX_q h2
                exact ⟨by show q + 0 ≤ q2; omega, by omega⟩
              · split at h
                · obtain ⟨v, q3, h2, h⟩ := bR_inl h
                  cases h
                  have := rG_le h2
                  exact ⟨by show q + 0 ≤ q2; omega, by omega⟩
                · split at h
                  · unfold pO40 at h
                    obtain ⟨B, q1, h1, h⟩ := bR_inl h
                    obtain ⟨f, q3, h2, h⟩ := bR_inl h
                    cases h
                    have := nU_q h1
                    have := nU_q h2
                    exact ⟨by show q + 0 ≤ q2; omega, by omega⟩
                  · cases h
/-- an INSTRUCTION that was read: its place, its op; the text goes on behind it -/
theorem pI_l {t : Nat → UInt8} {e p q : Nat} {C : List In} {i : In} (h : pI t e C p = .inl (i, q)) : i.1 = p ∧ iOp i = (t p).toNat ∧ p + 1 + (iL i).length ≤ q ∧ q ≤ e ∧ (2 ≤ iOp i ∧ iOp i ≤ 4 → (sk C C.length).length < 20) ∧ pI2 t e C p (iOp i) (p + 1) = .inl (i, q) := by
  unfold pI at h
  obtain ⟨op, q1, h1, h⟩ := bR_inl h
  obtain ⟨-, ho, hq1, hpe⟩ := nN_l h1
  subst hq1
  have h0 := h
  have key : i.1 = p ∧ iOp i = op ∧ p + 1 + (iL i).length ≤ q ∧ q ≤ e ∧ (2 ≤ op ∧ op ≤ 4 → (sk C C.length).length < 20) := by
    unfold pI2 at h
    split at h
    next h11 =>
      cases h
      exact ⟨rfl, h11.symm, Nat.le_refl _, hpe, fun z => absurd z (by omega)⟩
    next h11 =>
      split at h
      next h5 =>
        split at h
        · split at h
          · cases h
            exact ⟨rfl, h5.symm, Nat.le_refl _, hpe, fun z => absurd z (by omega)⟩
          · cases h
        · cases h
      next h5 =>
        split at h
        next h24 =>
          split at h
          · cases h
          next h20 =>
            obtain ⟨bt, q2, h2, h⟩ := bR_inl h
            cases h
            refine ⟨rfl, rfl, ?_, ?_, fun _ => by omega⟩
            · unfold pBt at h2
              split at h2
              · cases h2
                show p + 1 + 0 ≤ _
                omega
              · have := nT_l h2
                show p + 1 + 0 ≤ _
                omega
            · unfold pBt at h2
              split at h2
              next hz =>
                cases h2
                omega
              · have := nT_l h2
                omega
        next h24 =>
          obtain ⟨o, q2, h2, h⟩ := bR_inl h
          cases h
          have := pOs_le (by omega) h2
          refine ⟨rfl, rfl, ?_, this.2, fun z => absurd z h24⟩
          show p + 1 + o.2.2.length ≤ _
          omega
  obtain ⟨k1, k2, k3, k4, k5⟩ := key
  subst k2
  exact ⟨k1, ho, k3, k4, k5, h0⟩
theorem sk_snoc (C : List In) (i : In) : sk (C ++ [i]) (C ++ [i]).length = skS (sk C C.length) C.length (iOp i) := by
  rw [List.length_append]
  show sk (C ++ [i]) (C.length + 1) = _
  rw [sk_succ (i := i) (by simp), sk_app (Nat.le_refl _)]
theorem skS_len {s : List (Nat × Nat)} {n op : Nat} (h : s.length ≤ 20) (h2 : 2 ≤ op ∧ op ≤ 4 → s.length < 20) : (skS s n op).length ≤ 20 := by
  unfold skS
  split
  · rw [List.length_tail]
    omega
  · split
    · split
      · exact h
      · exact Nat.zero_le _
    · split
      next hz =>
        have := h2 hz
        simp only [List.length_cons]
        omega
      · exact h
/-! the CODE's body -/
def pBo (t : Nat → UInt8) (e : Nat) : Nat → List In → Nat → Rr (List In)
  | 0, _, _ => .inr (0, 0)
  | f + 1, C, p => bR (pI t e C p) fun i q => if iOp i = 11 ∧ (sk C C.length).isEmpty = true then .inl (C ++ [i], q) else pBo t e f (C ++ [i]) q
/-! the class's rows outlive the writing of others -/
theorem DC.fr {C : List In} {S : Nat → Nat → Bool} {σ σ' : fkS} (h : DC C σ) (f : Fr S σ σ') (hs : S 36 5 = false ∧ S 36 9 = false ∧ (∀ k, S 41 k = false) ∧ (∀ k, S 42 k = false) ∧ (∀ k, S 43 k = false) ∧ (∀ k, S 44 k = false) ∧ S 48 1 = false ∧ ∀ k, S 49 k = false) : DC C σ' := by
  obtain ⟨s1, s2, s3, s4, s5, s6, s7, s8⟩ := hs
  obtain ⟨h1, h2, h3, h4, h5, h6, h7⟩ := h
  refine ⟨(f _ _ s1).1.trans h1, (f _ _ s2).1.trans h2, fun k i hi => ?_, fun j B hB => (f _ _ (s6 _)).1.trans (h4 j B hB), fun k i o x r hi ho hk => (f _ _ (s5 _)).1.trans (h5 k i o x r hi ho hk), (f _ _ s7).1.trans h6, fun k a ha => (f _ _ (s8 _)).1.trans (h7 k a ha)⟩
  obtain ⟨a1, a2, a3⟩ := h3 k i hi
  exact ⟨(f _ _ (s3 _)).1.trans a1, (f _ _ (s4 _)).2.1.trans a2, fun hn => (f _ _ (s5 _)).1.trans (a3 hn)⟩
section BODX
variable {t : Nat → UInt8} {n e d : Nat}
theorem w_body73 {Q : Option Value → fkS → Prop} {v3 v4 v5 : Int32} {σ0 : fkS} {R : Rr (List In)} (kok : ∀ C q σ', R = .inl (C, q) → σ'.2.2 = σ0.2.2 → Fr sDC σ0 σ' → DC C σ' → RX t n e q σ' → σ'.1 46 3 = 0 → sk C C.length = [] → okO C → C.length + 8 ≤ q ∧ (lbs C).length + 8 ≤ q → Wq 27 (d + 6) 107 [some (.ref 48), some (.ref 46), some (.ref 36), some (.int v3), some (.int v4), some (.int v5), none, none] [] σ' Q)
    (kft : ∀ w pl σ', R = .inr (w, pl) → σ'.2.2 = σ0.2.2 → Fr sDC σ0 σ' → ZX t n e w pl σ' → Wq 27 (d + 6) 107 [some (.ref 48), some (.ref 46), some (.ref 36), some (.int v3), some (.int v4), some (.int v5), none, none] [] σ' Q) :
    ∀ (f k p : Nat) (C : List In) (σ : fkS), k + f = 4000 → k + 8 ≤ p → pBo t e f C p = R → σ.2.2 = σ0.2.2 → Fr sDC σ0 σ → RX t n e p σ → σ.1 46 3 = 0 → DC C σ → okO C → C.length + 8 ≤ p → (lbs C).length + 8 ≤ p → (sk C C.length).length ≤ 20 → Wq 27 (d + 6) 73 [some (.ref 48), some (.ref 46), some (.ref 36), some (.int v3), some (.int v4), some (.int v5), some (.int (0 : Int32)), some (.int (nI k))] [] σ Q
  | 0, k, p, C, σ, hk, hp, hR, e0, f0, h, hf, hD, hO, hC, hL, h20 => by
    have := h.2.2.2.2.2.2
    omega
  | f + 1, k, p, C, σ, hk, hp, hR, e0, f0, h, hf, hD, hO, hC, hL, h20 => by
    have h7 := h.2.2.2.2.2.2
    refine S_CodeReader_read_73 ⟨fun z => absurd z (nI_ge (b := 4000) (by omega) (by decide)), fun _ => ?_⟩
    refine kFine h hf ⟨fun z => absurd z (by decide), fun _ => ⟨fun z => absurd rfl z, fun _ => ?_⟩⟩
    simp only [sW_id]
    rw [pBo] at hR
    refine kYI (c_instruction h hf hD hO hC hL h20) (fun i q r σ1 hI e1 f1 hv hR1 hf1 => ?_) fun w pl r σ1 hI e1 f1 hZ => ?_
    · obtain ⟨hD1, rfl⟩ := hv
      simp only [sW_eq e1]
      rw [hI] at hR
      simp only [bR] at hR
      obtain ⟨-, hop, hl1, hl2, hl3, -⟩ := pI_l hI
      have hsk := sk_snoc C i
      have hC2 : (C ++ [i]).length + 8 ≤ q := by rw [List.length_append]; show C.length + 1 + 8 ≤ q; omega
      have hL2 : (lbs (C ++ [i])).length + 8 ≤ q := by rw [lbs_snoc, List.length_append]; omega
      by_cases hc : iOp i = 11 ∧ (sk C C.length).isEmpty = true
      · rw [if_pos hc] at hR
        have hb : b2i (decide (iOp i = 11) && (sk C C.length).isEmpty) = 1 := by rw [hc.2, decide_eq_true hc.1]; rfl
        rw [hb]
        have hs0 : sk (C ++ [i]) (C ++ [i]).length = [] := by
          rw [hsk, List.isEmpty_iff.mp hc.2]
          unfold skS
          rw [if_pos hc.1]
          rfl
        have fin := kok (C ++ [i]) q σ1 hR.symm (e1.trans e0) (f0.tr f1) hD1 hR1 hf1 hs0 hO.snoc ⟨hC2, hL2⟩
        have e2 : nI k + (1 : Int32) = nI (k + 1) := nI_1 k
        rw [e2]
        refine S_CodeReader_read_73 ⟨fun _ => fin, fun _ => kFine hR1 hf1 ⟨fun z => absurd z (by decide), fun _ => ⟨fun _ => fin, fun z => absurd z (by decide)⟩⟩⟩
      · rw [if_neg hc] at hR
        have hb : b2i (decide (iOp i = 11) && (sk C C.length).isEmpty) = 0 := by
          refine b2i_0.mpr ?_
          cases h1 : decide (iOp i = 11)
          · rfl
          · cases h2 : (sk C C.length).isEmpty
            · rfl
            · exact absurd ⟨of_decide_eq_true h1, h2⟩ hc
        rw [hb, show nI k + (1 : Int32) = nI (k + 1) from nI_1 k]
        exact w_body73 kok kft f (k + 1) q (C ++ [i]) σ1 (by omega) (by omega) hR (e1.trans e0) (f0.tr f1) hR1 hf1 hD1 hO.snoc hC2 hL2 (by rw [hsk]; exact skS_len h20 hl3)
    · simp only [sW_eq e1]
      rw [hI] at hR
      have fin := kft w pl σ1 hR.symm (e1.trans e0) (f0.tr f1) hZ
      exact S_CodeReader_read_73 ⟨fun _ => fin, fun _ => zFine hZ ⟨fun _ => fin, fun z => absurd rfl z⟩⟩
end BODX
