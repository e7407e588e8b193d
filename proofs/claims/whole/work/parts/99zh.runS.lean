/-! THE CLASS runs: its stack, pairs, CALLS -/
/-- the stack, the upmost first -/
def XS (A : List Int32) (σ : fkS) : Prop := σ.1 98 4 = nI A.length ∧ A.length ≤ 12000 ∧ ∀ i v, A.reverse[i]? = some v → σ.1 101 i = v
/-- pairs, orders, the deepest -/
def XH (s : rwS) (σ : fkS) : Prop := σ.1 98 9 = nI s.1.length ∧ s.1.length ≤ 500 ∧ (∀ i q, s.1[i]? = some q → σ.1 99 (i + 1) = q.1 ∧ σ.1 100 (i + 1) = q.2) ∧ σ.1 98 10 = nI s.2.1 ∧ s.2.1 ≤ 5000 ∧ σ.1 98 11 = nI s.2.2 ∧ s.2.2 ≤ 60
/-- CALLS within one another, the innermost first: where its NAMES stand, where it goes on -/
def XFr (F : List (Nat × Nat)) (σ : fkS) : Prop := σ.1 98 6 = nI F.length ∧ F.length ≤ 60 ∧ (∀ i q, F.reverse[i]? = some q → σ.1 102 (2 * i) = nI q.1 ∧ σ.1 102 (2 * i + 1) = nI q.2) ∧ (F ≠ [] → σ.1 98 7 = nI ((F.head?.map Prod.fst).getD 0)) ∧ ∀ q ∈ F, q.1 ≤ 12000 ∧ q.2 ≤ 3000
def fkXC (c j : Nat) : Bool := (Nat.ble 99 c && Nat.ble c 102) || (Nat.beq c 98 && Nat.ble 4 j)
/-- the class in a RUN at place p -/
def XM (σ0 : fkS) (A : List Int32) (F : List (Nat × Nat)) (s : rwS) (p : Nat) (σ : fkS) : Prop := XS A σ ∧ XFr F σ ∧ XH s σ ∧ σ.1 98 8 = nI p ∧ σ.1 98 12 = 0 ∧ σ.2.2 = σ0.2.2 ∧ Fr fkXC σ0 σ
section XMs
variable {σ0 σ σ' : fkS} {A : List Int32} {F : List (Nat × Nat)} {s : rwS} {p d : Nat}
theorem rx_push {v : Int32} (h : XM σ0 A F s p σ) (hl : A.length < 12000) : Dv d 225 [.ref 98, .int v] σ (fun σ' => XM σ0 (v :: A) F s p σ') := by
  obtain ⟨⟨a1, a2, a3⟩, hF, hH, h8, h12, hr, hf⟩ := h
  have ck : (nI A.length).toNatClampNeg = A.length := nI_clamp (by omega)
  refine S_Runner_push ?_
  rw [a1, ck, (nI_succ A.length).symm]
  refine ⟨fun y => absurd y (nI_ge (a := A.length) (b := 12000) hl (by decide)), fun _ => ⟨vp_in_nI hl (by decide), rfl, ?_⟩⟩
  have f0 : Fr (fun c j => Nat.beq c 101 || (Nat.beq c 98 && Nat.beq j 4)) σ (sI (sI σ 101 A.length v) 98 4 (nI (A.length + 1))) := (Fr.rf.sI rfl).sI rfl
  refine ⟨⟨sI_ss, hl, fun i u hu => ?_⟩, ?_, ?_, (f0 98 8 rfl).1.trans h8, (f0 98 12 rfl).1.trans h12, hr, hf.tr (f0.mono fun c j q => ?_)⟩
  · rcases rev_last hu with ⟨c, hu⟩ | ⟨c, hu⟩
    · exact (congrFun (sI_o (by decide)) i).trans ((sI_so (by omega)).trans (a3 i u hu))
    · subst hu
      rw [c]
      exact (congrFun (sI_o (by decide)) _).trans sI_ss
  · obtain ⟨b1, b2, b3, b4, b5⟩ := hF
    exact ⟨(f0 98 6 rfl).1.trans b1, b2, fun i q hq => ⟨(f0 102 _ rfl).1.trans (b3 i q hq).1, (f0 102 _ rfl).1.trans (b3 i q hq).2⟩, fun z => (f0 98 7 rfl).1.trans (b4 z), b5⟩
  · obtain ⟨b1, b2, b3, b4, b5, b6, b7⟩ := hH
    exact ⟨(f0 98 9 rfl).1.trans b1, b2, fun i q hq => ⟨(f0 99 _ rfl).1.trans (b3 i q hq).1, (f0 100 _ rfl).1.trans (b3 i q hq).2⟩, (f0 98 10 rfl).1.trans b4, b5, (f0 98 11 rfl).1.trans b6, b7⟩
  · unfold fkXC
    simp only [Bool.or_eq_true, Bool.and_eq_true, Nat.beq_eq, Nat.ble_eq] at q ⊢
    omega
theorem rx_pop {v : Int32} (h : XM σ0 (v :: A) F s p σ) : Di d 229 [.ref 98] σ (fun x σ' => x = v ∧ XM σ0 A F s p σ') := by
  obtain ⟨⟨a1, a2, a3⟩, hF, hH, h8, h12, hr, hf⟩ := h
  have a2' : A.length + 1 ≤ 12000 := a2
  have e1 : nI (v :: A).length - 1 = nI A.length := by
    rw [List.length_cons, show (1 : Int32) = nI 1 from rfl, nI_sub (by omega), Nat.add_sub_cancel]
  have ck : (nI A.length).toNatClampNeg = A.length := nI_clamp (by omega)
  refine S_Runner_pop ?_
  rw [a1, e1, ck, a3 A.length v (rev_at v A)]
  refine ⟨fun _ => ⟨vp_in_nI (by omega) (by decide), rfl, rfl, ?_⟩, fun y => absurd (nI_lt (a := 0) (by rw [List.length_cons]; omega) (by rw [List.length_cons]; omega)) y⟩
  have f0 : Fr (fun c j => Nat.beq c 98 && Nat.beq j 4) σ (sI σ 98 4 (nI A.length)) := Fr.rf.sI rfl
  refine ⟨⟨sI_ss, by omega, fun i u hu => (congrFun (sI_o (by decide)) i).trans (a3 i u (rev_in (M := [v]) hu))⟩, ?_, ?_, (f0 98 8 rfl).1.trans h8, (f0 98 12 rfl).1.trans h12, hr, hf.tr (f0.mono fun c j q => ?_)⟩
  · obtain ⟨b1, b2, b3, b4, b5⟩ := hF
    exact ⟨(f0 98 6 rfl).1.trans b1, b2, fun i q hq => ⟨(f0 102 _ rfl).1.trans (b3 i q hq).1, (f0 102 _ rfl).1.trans (b3 i q hq).2⟩, fun z => (f0 98 7 rfl).1.trans (b4 z), b5⟩
  · obtain ⟨b1, b2, b3, b4, b5, b6, b7⟩ := hH
    exact ⟨(f0 98 9 rfl).1.trans b1, b2, fun i q hq => ⟨(f0 99 _ rfl).1.trans (b3 i q hq).1, (f0 100 _ rfl).1.trans (b3 i q hq).2⟩, (f0 98 10 rfl).1.trans b4, b5, (f0 98 11 rfl).1.trans b6, b7⟩
  · unfold fkXC
    simp only [Bool.or_eq_true, Bool.and_eq_true, Nat.beq_eq, Nat.ble_eq] at q ⊢
    omega
/-- the place goes on -/
theorem XM.at2 {q : Nat} (h : XM σ0 A F s p σ) : XM σ0 A F s q (sI σ 98 8 (nI q)) := by
  obtain ⟨⟨a1, a2, a3⟩, ⟨b1, b2, b3, b4, b5⟩, ⟨c1, c2, c3, c4, c5, c6, c7⟩, h8, h12, hr, hf⟩ := h
  have f0 : Fr (fun c j => Nat.beq c 98 && Nat.beq j 8) σ (sI σ 98 8 (nI q)) := Fr.rf.sI rfl
  refine ⟨⟨(f0 98 4 rfl).1.trans a1, a2, fun i v hv => (f0 101 i rfl).1.trans (a3 i v hv)⟩, ⟨(f0 98 6 rfl).1.trans b1, b2, fun i q hq => ⟨(f0 102 _ rfl).1.trans (b3 i q hq).1, (f0 102 _ rfl).1.trans (b3 i q hq).2⟩, fun z => (f0 98 7 rfl).1.trans (b4 z), b5⟩, ⟨(f0 98 9 rfl).1.trans c1, c2, fun i q hq => ⟨(f0 99 _ rfl).1.trans (c3 i q hq).1, (f0 100 _ rfl).1.trans (c3 i q hq).2⟩, (f0 98 10 rfl).1.trans c4, c5, (f0 98 11 rfl).1.trans c6, c7⟩, sI_ss, (f0 98 12 rfl).1.trans h12, hr, hf.tr (f0.mono fun c j q => ?_)⟩
  unfold fkXC
  simp only [Bool.or_eq_true, Bool.and_eq_true, Nat.beq_eq, Nat.ble_eq] at q ⊢
  omega
end XMs
