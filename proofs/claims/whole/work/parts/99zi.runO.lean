/-! THE CLASS runs: a NAME's place, cons -/
/-- a RUN that has met an error -/
def XEr (σ0 : fkS) (s : rwS) (x : Nat) (σ : fkS) : Prop := XH s σ ∧ σ.1 98 12 = nI x ∧ σ.2.2 = σ0.2.2 ∧ Fr fkXC σ0 σ
section XO
variable {σ0 σ σ' : fkS} {A : List Int32} {F : List (Nat × Nat)} {s : rwS} {p d : Nat}
theorem XH.fr {S : Nat → Nat → Bool} (h : XH s σ) (hf : Fr S σ σ') (h9 : S 98 9 = false) (h10 : S 98 10 = false) (h11 : S 98 11 = false) (h99 : ∀ j, S 99 j = false) (h100 : ∀ j, S 100 j = false) : XH s σ' := by
  obtain ⟨b1, b2, b3, b4, b5, b6, b7⟩ := h
  exact ⟨(hf 98 9 h9).1.trans b1, b2, fun i q hq => ⟨(hf 99 _ (h99 _)).1.trans (b3 i q hq).1, (hf 100 _ (h100 _)).1.trans (b3 i q hq).2⟩, (hf 98 10 h10).1.trans b4, b5, (hf 98 11 h11).1.trans b6, b7⟩
/-- what stands at a place of the stack -/
theorem rx_std {k : Nat} {v : Int32} (h : XM σ0 A F s p σ) (hk : A.reverse[k]? = some v) : Di d 231 [.ref 98, .int (nI k)] σ (fun x σ' => x = v ∧ σ' = σ) := by
  obtain ⟨a1, a2, a3⟩ := h.1
  have kl : k < A.length := by have := (List.getElem?_eq_some_iff.mp hk).1; rw [List.length_reverse] at this; exact this
  have ck : (nI k).toNatClampNeg = k := nI_clamp (by omega)
  refine S_Runner_standing ⟨fun y => absurd y (nI_pos (by omega)), fun _ => ?_⟩
  rw [a1, ck, a3 k v hk]
  exact ⟨fun y => absurd y (nI_ge kl (by omega)), fun _ => ⟨vp_in_nI (by omega) (by decide), rfl, rfl, rfl⟩⟩
/-- two become a pair -/
theorem rx_cons {x y : Int32} (h : XM σ0 (y :: x :: A) F s p σ) : Dv (d + 1) 232 [.ref 98] σ (fun σ' => (s.1.length < 500 ∧ XM σ0 (nI (s.1.length + 1) :: A) F (s.1 ++ [(x, y)], s.2) p σ') ∨ (¬ s.1.length < 500 ∧ XEr σ0 s 2 σ')) := by
  have hA : A.length + 2 ≤ 12000 := h.1.2.1
  refine S_Runner_cons ?_
  refine yI rfl (rx_pop h) fun v σ1 ⟨hv, h1⟩ w1 => ?_
  subst hv
  rw [w1]
  refine yI (h1.2.2.2.2.2.1.trans h.2.2.2.2.2.1.symm) (rx_pop h1) fun u σ3 ⟨hu, h3⟩ w3 => ?_
  subst hu
  rw [w3]
  have hr : σ3.2.2 = σ.2.2 := h3.2.2.2.2.2.1.trans h.2.2.2.2.2.1.symm
  obtain ⟨hS, ⟨c1, c2, c3, c4, c5⟩, ⟨b1, b2, b3, b4, b5, b6, b7⟩, h8, h12, hr0, hf⟩ := h3
  have cn : (nI (s.1.length + 1)).toNatClampNeg = s.1.length + 1 := nI_clamp (by omega)
  rw [b1, (nI_succ s.1.length).symm, cn]
  refine ⟨fun y2 => ?_, fun y2 => ⟨hr, Or.inr ⟨fun c => y2 (nI_lt (a := s.1.length) (b := 500) c (by decide)), ?_⟩⟩⟩
  · have lt : s.1.length < 500 := by
      rcases Nat.lt_or_ge s.1.length 500 with c | c
      · exact c
      · exact absurd y2 (nI_nlt (a := s.1.length) (b := 500) c (by omega))
    have f0 : Fr (fun c j => Nat.beq c 99 || Nat.beq c 100 || (Nat.beq c 98 && Nat.beq j 9)) σ3 (sI (sI (sI σ3 98 9 (nI (s.1.length + 1))) 99 (s.1.length + 1) u) 100 (s.1.length + 1) v) := ((Fr.rf.sI rfl).sI rfl).sI rfl
    have h4 : XM σ0 A F (s.1 ++ [(u, v)], s.2) p (sI (sI (sI σ3 98 9 (nI (s.1.length + 1))) 99 (s.1.length + 1) u) 100 (s.1.length + 1) v) := by
      refine ⟨⟨(f0 98 4 rfl).1.trans hS.1, hS.2.1, fun i w hw => (f0 101 i rfl).1.trans (hS.2.2 i w hw)⟩, ⟨(f0 98 6 rfl).1.trans c1, c2, fun i q hq => ⟨(f0 102 _ rfl).1.trans (c3 i q hq).1, (f0 102 _ rfl).1.trans (c3 i q hq).2⟩, fun z => (f0 98 7 rfl).1.trans (c4 z), c5⟩, ⟨?_, ?_, fun i q hq => ?_, (f0 98 10 rfl).1.trans b4, b5, (f0 98 11 rfl).1.trans b6, b7⟩, (f0 98 8 rfl).1.trans h8, (f0 98 12 rfl).1.trans h12, hr0, hf.tr (f0.mono fun c j q => ?_)⟩
      · rw [List.length_append]
        exact (congrFun (sI_o (by decide)) _).trans ((congrFun (sI_o (by decide)) _).trans sI_ss)
      · rw [List.length_append]; exact lt
      · rcases Nat.lt_or_ge i s.1.length with c | c
        · rw [List.getElem?_append_left c] at hq
          obtain ⟨g1, g2⟩ := b3 i q hq
          exact ⟨(congrFun (sI_o (by decide)) _).trans ((sI_so (by omega)).trans ((congrFun (sI_o (by decide)) _).trans g1)), (sI_so (by omega)).trans ((congrFun (sI_o (by decide)) _).trans ((congrFun (sI_o (by decide)) _).trans g2))⟩
        · have hi := (List.getElem?_eq_some_iff.mp hq).1
          rw [List.length_append] at hi
          have e2 : [(u, v)].length = 1 := rfl
          rw [e2] at hi
          have hi2 : i = s.1.length := by omega
          subst hi2
          rw [mid_a] at hq
          have := Option.some.inj hq
          subst this
          exact ⟨(congrFun (sI_o (by decide)) _).trans sI_ss, sI_ss⟩
      · unfold fkXC
        simp only [Bool.or_eq_true, Bool.and_eq_true, Nat.beq_eq, Nat.ble_eq] at q ⊢
        omega
    generalize sI (sI (sI σ3 98 9 (nI (s.1.length + 1))) 99 (s.1.length + 1) u) 100 (s.1.length + 1) v = σ4 at f0 h4 ⊢
    refine ⟨vp_in_nI (by omega) (by decide), vp_in_nI (by omega) (by decide), ?_⟩
    have hr4 : σ4.2.2 = σ.2.2 := h4.2.2.2.2.2.1.trans h.2.2.2.2.2.1.symm
    refine yV hr4 (rx_push h4 (by omega)) fun σ5 h5 w5 => ?_
    show (sW σ5 σ).2.2 = σ.2.2 ∧ _
    rw [w5]
    exact ⟨h5.2.2.2.2.2.1.trans h.2.2.2.2.2.1.symm, Or.inl ⟨lt, h5⟩⟩
  · have f0 : Fr (fun c j => Nat.beq c 98 && Nat.beq j 12) σ3 (sI σ3 98 12 (2 : Int32)) := Fr.rf.sI rfl
    refine ⟨XH.fr ⟨b1, b2, b3, b4, b5, b6, b7⟩ f0 rfl rfl rfl (fun _ => rfl) (fun _ => rfl), sI_ss, hr0, hf.tr (f0.mono fun c j q => ?_)⟩
    unfold fkXC
    simp only [Bool.or_eq_true, Bool.and_eq_true, Nat.beq_eq, Nat.ble_eq] at q ⊢
    omega
end XO
