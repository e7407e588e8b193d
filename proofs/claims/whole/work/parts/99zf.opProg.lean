/-! program: the same answer, alike behind it -/
def fkPgA (c j : Nat) : Bool := fkPX c j || fkPQ c j || (Nat.beq c 0 && (Nat.beq j 10 || Nat.beq j 11))
section OPP
variable {t : Nat → UInt8} {n : Nat} {σ σ' : fkS} {J : fkS → Prop}
theorem fkPX_in {c j : Nat} (h : fkPX c j = true) : (75 ≤ c ∧ c ≤ 97) ∨ (c = 0 ∧ j = 1) := by
  unfold fkPX at h
  simp only [Bool.or_eq_true, Bool.and_eq_true, Nat.beq_eq, Nat.ble_eq] at h
  exact h
theorem fkPQ_in {c j : Nat} (h : fkPQ c j = true) : c = 103 ∨ (154 ≤ c ∧ c ≤ 185) := by
  unfold fkPQ fkPM at h
  simp only [Bool.or_eq_true, Bool.and_eq_true, Nat.beq_eq, Nat.ble_eq] at h
  omega
theorem fkPQ_no {c j : Nat} (h : c ≤ 102 ∨ c = 104) : fkPQ c j = false := by
  cases e : fkPQ c j
  · rfl
  · have := fkPQ_in e
    omega
theorem Fr.pa1 (h : Fr fkPX σ σ') : Fr fkPgA σ σ' := h.mono fun c j q => by unfold fkPgA; rw [q]; rfl
theorem Fr.pa2 (h : Fr fkPQ σ σ') : Fr fkPgA σ σ' := h.mono fun c j q => by unfold fkPgA; rw [q, Bool.or_true]; rfl
theorem KPx.pq {D : List FD} (h : KPx t D σ) (hf : Fr fkPQ σ σ') : KPx t D σ' := by
  obtain ⟨h1, h2, h3⟩ := h
  have no : ∀ c j, c ≤ 102 → fkPQ c j = false := fun c j hc => fkPQ_no (Or.inl hc)
  refine ⟨h1.fg hf (no _ _ (by decide)) (fun j => no _ j (by decide)) (fun j => no _ j (by decide)) (fun j => no _ j (by decide)) (fun j => no _ j (by decide)), fun i q hq => ?_, (hf 75 0 (no _ _ (by decide))).1.trans h3⟩
  obtain ⟨a1, a2, a3, a4, a5, a6, a7⟩ := h2 i q hq
  refine ⟨(hf 76 i (no _ _ (by decide))).2.1.trans a1, (hf 77 i (no _ _ (by decide))).1.trans a2, (hf 78 i (no _ _ (by decide))).1.trans a3, (hf 79 i (no _ _ (by decide))).1.trans a4, (hf 80 i (no _ _ (by decide))).1.trans a5, a6, fun k a ha => ?_⟩
  obtain ⟨b1, b2, b3⟩ := a7 k a ha
  exact ⟨(hf 81 _ (no _ _ (by decide))).2.1.trans b1, (hf 82 _ (no _ _ (by decide))).1.trans b2, (hf 83 _ (no _ _ (by decide))).1.trans b3⟩
/-- a PROGRAM that was kept: what is so of it -/
def okP (t : Nat → UInt8) (k : Nat) (D : List FD) : Prop := k ≤ 4000 ∧ 1 ≤ D.length ∧ D.length ≤ 20 ∧ szD D ≤ 400 ∧ (∀ q ∈ D, okD t k q) ∧ jd t D = none
theorem okP_of {k : Nat} (hk : k ≤ 4000) (h : pgF t k = none) (h2 : (pgR t k).1.2.1 = none) : okP t k (pgR t k).2 := by
  obtain ⟨-, i2, i3, i4, i5⟩ := pPg_inv hk 20 _ _ h2 (fun _ => ⟨(fun q hq => by cases hq), Nat.le_refl _, Nat.zero_le _, Nat.le_refl _⟩) (Or.inr (by decide))
  refine ⟨hk, List.length_pos_iff.mpr i5, i4, i3, i2, ?_⟩
  unfold pgF at h
  rw [if_pos h2] at h
  exact h
theorem op_program (hX : tX σ t n) (hM : tM σ t n) (hn : n ≤ 4000) (h10 : σ.2.2 0 10 = 63) (h11 : σ.2.2 0 11 = 76) (a0 : Int32) (hJ0 : J σ)
    (hJ1 : ∀ σ2, Fr fkPgA σ σ2 → (∀ c j, (180 ≤ c ∧ c ≤ 185) ∨ (c = 103 ∧ 119 ≤ j) → σ2.1 c j = σ.1 c j) → σ2.1 0 1 = 0 → σ2.1 103 1 = 0 → σ2.2.2 0 10 = 63 → σ2.2.2 0 11 = 76 → J σ2)
    (hJ2 : ∀ k D σ2, Fr fkPgA σ σ2 → σ2.1 0 1 = 0 → σ2.1 103 1 = 0 → σ2.2.2 0 10 = 76 → σ2.2.2 0 11 = 63 → okP t k D → KPx t D σ2 → KPm t D σ2 → J σ2) :
    Ci 2000 142 [.ref 0, .int a0] σ (fun r σ1 => Ci 2000 324 [.ref 103, .int a0] σ1 (fun r2 σ2 => r = r2 ∧ J σ2)) := by
  by_cases z : a0 < 1
  · exact S_X_program (d := 1999) h11 ⟨fun _ => S_M_program (d := 1999) ⟨fun _ => ⟨rfl, hJ0⟩, fun y => absurd z y⟩, fun y => absurd z y⟩
  by_cases w : a0 ≤ nI n
  · have z0 : ¬ a0 < 0 := fun q => z (Int32.lt_trans q (by decide))
    obtain ⟨k, hk, rfl⟩ := nI_of2 (nI_toInt (by omega)) z0 w
    have hk4 : k ≤ 4000 := by omega
    have k0 : k ≠ 0 := fun q => z (by rw [q]; decide)
    have sM : ∀ σ1, Fr fkPX σ σ1 → tM σ1 t n := fun σ1 f1 => ⟨(f1 103 1 rfl).1.trans hM.1, fun j hj => (f1 104 j rfl).1.trans (hM.2 j hj)⟩
    refine c_program (d := 1991) hX hn (by decide) hk h10 h11 (fun q => absurd q k0) (fun a σ1 k1 eF a4 f1 e1 => ?_) (fun σ1 k1 eF e2 f1 e1 hK => ?_)
    · refine m_program (d := 1993) (sM σ1 f1) hn (by decide) hk (fun q => absurd q k0) (fun b σ2 _ eF2 _ f2 e3 => ?_) (fun σ2 _ eF2 _ _ _ _ => by rw [eF] at eF2; cases eF2)
      rw [eF] at eF2
      cases eF2
      refine ⟨rfl, hJ1 σ2 (f1.pa1.tr f2.pq.pa2) (fun c j hc => ?_) ((f2 0 1 rfl).1.trans e1) e3 ((f2 0 10 rfl).2.2.trans ((f1 0 10 rfl).2.2.trans h10)) ((f2 0 11 rfl).2.2.trans ((f1 0 11 rfl).2.2.trans h11))⟩
      have n1 : fkPX c j = false := by
        cases e : fkPX c j
        · rfl
        · have := fkPX_in e
          omega
      have n2 : fkPM c j = false := by
        cases e : fkPM c j
        · rfl
        · unfold fkPM at e
          simp only [Bool.or_eq_true, Bool.and_eq_true, Nat.beq_eq, Nat.ble_eq] at e
          omega
      exact (f2 c j n2).1.trans (f1 c j n1).1
    · have fR : Fr (fun c j => Nat.beq c 0 && (Nat.beq j 10 || Nat.beq j 11)) σ1 (sR (sR σ1 0 10 76) 0 11 63) := (Fr.rf.sR rfl).sR rfl
      have fRa : Fr fkPgA σ1 (sR (sR σ1 0 10 76) 0 11 63) := fR.mono fun c j q => by unfold fkPgA; rw [q, Bool.or_true]
      have hM1 : tM (sR (sR σ1 0 10 76) 0 11 63) t n := sM σ1 f1
      have r10 : (sR (sR σ1 0 10 76) 0 11 63).2.2 0 10 = 76 := rfl
      have r11 : (sR (sR σ1 0 10 76) 0 11 63).2.2 0 11 = 63 := rfl
      have hK1 : KPx t (pgR t k).2 (sR (sR σ1 0 10 76) 0 11 63) := hK
      have e1' : (sR (sR σ1 0 10 76) 0 11 63).1 0 1 = 0 := e1
      generalize sR (sR σ1 0 10 76) 0 11 63 = σ3 at fRa hM1 r10 r11 hK1 e1' ⊢
      refine m_program (d := 1993) hM1 hn (by decide) hk (fun q => absurd q k0) (fun b σ2 _ eF2 _ _ _ => by rw [eF] at eF2; cases eF2) (fun σ2 _ _ _ f2 e3 hP => ?_)
      exact ⟨rfl, hJ2 k (pgR t k).2 σ2 ((f1.pa1.tr fRa).tr f2.pa2) ((f2 0 1 (fkPQ_no (by omega))).1.trans e1') e3 ((f2 0 10 (fkPQ_no (by omega))).2.2.trans r10) ((f2 0 11 (fkPQ_no (by omega))).2.2.trans r11) (okP_of hk4 eF e2) (hK1.pq f2) hP⟩
  · refine S_X_program (d := 1999) h11 ⟨fun y => absurd y z, fun _ => ?_⟩
    rw [hX.1]
    refine ⟨fun y => absurd y w, fun _ => ?_⟩
    refine S_M_program (d := 1999) ⟨fun y => absurd y z, fun _ => ?_⟩
    rw [hM.1]
    exact ⟨fun y => absurd y w, fun _ => ⟨rfl, hJ0⟩⟩
end OPP
