/-! FEED -/
def tp20 (t : Nat → UInt8) (n : Nat) (a b c d e : Int32) : Nat → UInt8 := tp4 (tp4 (tp4 (tp4 (tp4 t n a) (n + 4) b) (n + 8) c) (n + 12) d) (n + 16) e
theorem le_feed {n : Nat} (hn : n ≤ 4000) : (nI n + (20 : Int32)) ≤ (4000 : Int32) ↔ n + 20 ≤ 4000 := by
  have e1 : nI n + (20 : Int32) = nI (n + 20) := nI_add n 20
  rw [e1]
  exact nI_leI (b := 4000) (by omega) (by decide)
theorem c_feedX {d n : Nat} {a0 a1 a2 a3 a4 : Int32} {σ : fkS} {t : Nat → UInt8} (h : tX σ t n) (hn : n ≤ 4000) : Ci (d + 1) 13 [.ref 0, .int a0, .int a1, .int a2, .int a3, .int a4] σ (fun r σ' => (n + 20 ≤ 4000 ∧ r = nI (n + 20) ∧ tX σ' (tp20 t n a0 a1 a2 a3 a4) (n + 20) ∧ Fr fkTX σ σ') ∨ (¬ n + 20 ≤ 4000 ∧ r = -1 ∧ σ' = σ)) := by
  refine S_X_feed ⟨fun z => ?_, fun z => ?_⟩
  · rw [h.1] at z
    have hz := (le_feed hn).mp z
    refine (c_putOnTape (a := a0) h (by omega)).mono fun x σ1 hx => ?_
    obtain ⟨rfl, e1, t1, f1⟩ := Qv_s hx
    have g1 := e1
    refine ⟨e1, ?_⟩
    simp only [sW_eq g1]
    refine (c_putOnTape (a := a1) t1 (by omega)).mono fun x σ2 hx => ?_
    obtain ⟨rfl, e2, t2, f2⟩ := Qv_s hx
    have g2 := e2.trans g1
    refine ⟨e2, ?_⟩
    simp only [sW_eq g2]
    refine (c_putOnTape (a := a2) t2 (by omega)).mono fun x σ3 hx => ?_
    obtain ⟨rfl, e3, t3, f3⟩ := Qv_s hx
    have g3 := e3.trans g2
    refine ⟨e3, ?_⟩
    simp only [sW_eq g3]
    refine (c_putOnTape (a := a3) t3 (by omega)).mono fun x σ4 hx => ?_
    obtain ⟨rfl, e4, t4, f4⟩ := Qv_s hx
    have g4 := e4.trans g3
    refine ⟨e4, ?_⟩
    simp only [sW_eq g4]
    refine (c_putOnTape (a := a4) t4 (by omega)).mono fun x σ5 hx => ?_
    obtain ⟨rfl, e5, t5, f5⟩ := Qv_s hx
    have g5 := e5.trans g4
    refine ⟨e5, ?_⟩
    simp only [sW_eq g5]
    exact Or.inl ⟨hz, t5.1, t5, (((f1.tr f2).tr f3).tr f4).tr f5⟩
  · rw [h.1] at z
    exact Or.inr ⟨fun y => z ((le_feed hn).mpr y), rfl, rfl⟩
theorem c_feedM {d n : Nat} {a0 a1 a2 a3 a4 : Int32} {σ : fkS} {t : Nat → UInt8} (h : tM σ t n) (hn : n ≤ 4000) : Ci (d + 1) 237 [.ref 103, .int a0, .int a1, .int a2, .int a3, .int a4] σ (fun r σ' => (n + 20 ≤ 4000 ∧ r = nI (n + 20) ∧ tM σ' (tp20 t n a0 a1 a2 a3 a4) (n + 20) ∧ Fr fkTM σ σ') ∨ (¬ n + 20 ≤ 4000 ∧ r = -1 ∧ σ' = σ)) := by
  refine S_M_feed ⟨fun z => ?_, fun z => ?_⟩
  · rw [h.1] at z
    have hz := (le_feed hn).mp z
    have nx : ∀ (n : Nat) (a : Int32) (t : Nat → UInt8) (σ : fkS) (K : fkS → Prop), tM σ t n → n + 4 ≤ 4000 → (∀ σ1, tM σ1 (tp4 t n a) (n + 4) → Fr fkTM σ σ1 → K σ1) → Cv d 238 [.ref 103, .int a] σ K := by
      intro n a t σ K ht h4 k
      refine (c_feeds (a := a) ht h4).mono fun x σ' hx => ?_
      obtain ⟨rfl, h1, h2⟩ := Qv_s hx
      exact k σ' h1 h2
    refine nx n a0 t σ _ h (by omega) fun σ1 t1 f1 => ?_
    refine nx (n + 4) a1 _ σ1 _ t1 (by omega) fun σ2 t2 f2 => ?_
    refine nx (n + 8) a2 _ σ2 _ t2 (by omega) fun σ3 t3 f3 => ?_
    refine nx (n + 12) a3 _ σ3 _ t3 (by omega) fun σ4 t4 f4 => ?_
    refine nx (n + 16) a4 _ σ4 _ t4 (by omega) fun σ5 t5 f5 => ?_
    exact Or.inl ⟨hz, t5.1, t5, (((f1.tr f2).tr f3).tr f4).tr f5⟩
  · rw [h.1] at z
    exact Or.inr ⟨fun y => z ((le_feed hn).mpr y), rfl, rfl⟩
/-- both tapes hold the same n bytes -/
def tB (σ : fkS) (t : Nat → UInt8) (n : Nat) : Prop := n ≤ 4000 ∧ tX σ t n ∧ tM σ t n
theorem tX.fr {S : Nat → Nat → Bool} {σ σ' : fkS} {t : Nat → UInt8} {n : Nat} (h : tX σ t n) (f : Fr S σ σ') (h0 : S 0 1 = false) (h1 : ∀ k, S 1 k = false) : tX σ' t n := ⟨(f 0 1 h0).1.trans h.1, fun k hk => (f 1 k (h1 k)).1.trans (h.2 k hk)⟩
theorem tM.fr {S : Nat → Nat → Bool} {σ σ' : fkS} {t : Nat → UInt8} {n : Nat} (h : tM σ t n) (f : Fr S σ σ') (h0 : S 103 1 = false) (h1 : ∀ k, S 104 k = false) : tM σ' t n := ⟨(f 103 1 h0).1.trans h.1, fun k hk => (f 104 k (h1 k)).1.trans (h.2 k hk)⟩
def fkT2 (c j : Nat) : Bool := fkTX c j || fkTM c j
/-- feed: the same answer, and the tapes are alike behind it -/
theorem op_feed {d n : Nat} {σ : fkS} {t : Nat → UInt8} (h : tB σ t n) {J : fkS → Prop} (hJ : ∀ σ2 t2 n2, tB σ2 t2 n2 → Fr fkT2 σ σ2 → J σ2) (a0 a1 a2 a3 a4 : Int32) :
    Ci (d + 1) 13 [.ref 0, .int a0, .int a1, .int a2, .int a3, .int a4] σ (fun r σ1 => Ci (d + 1) 237 [.ref 103, .int a0, .int a1, .int a2, .int a3, .int a4] σ1 (fun r2 σ2 => r = r2 ∧ J σ2)) := by
  obtain ⟨hn, hX, hM⟩ := h
  refine (c_feedX (d := d) hX hn).mono fun x σ1 hx => ?_
  obtain ⟨r, rfl, hr⟩ := Qi_s hx
  rcases hr with ⟨h20, rfl, hX1, f1⟩ | ⟨h20, rfl, rfl⟩
  · have hM1 : tM σ1 t n := hM.fr f1 rfl (fun k => rfl)
    refine (c_feedM (d := d) hM1 hn).mono fun x σ2 hx => ?_
    obtain ⟨r2, rfl, hr⟩ := Qi_s hx
    rcases hr with ⟨-, rfl, hM2, f2⟩ | ⟨z, -⟩
    · refine ⟨rfl, hJ σ2 _ _ ⟨by omega, hX1.fr f2 rfl (fun k => rfl), hM2⟩ ((f1.mono fun c j e => ?_).tr (f2.mono fun c j e => ?_))⟩
      · unfold fkT2
        rw [e]
        rfl
      · unfold fkT2
        rw [e, Bool.or_true]
    · exact absurd h20 z
  · refine (c_feedM (d := d) hM hn).mono fun x σ2 hx => ?_
    obtain ⟨r2, rfl, hr⟩ := Qi_s hx
    rcases hr with ⟨z, -⟩ | ⟨-, rfl, rfl⟩
    · exact absurd z h20
    · exact ⟨rfl, hJ _ t n ⟨hn, hX, hM⟩ Fr.rf⟩
