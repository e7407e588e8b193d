/-! THE CLASS runs: ways -/
section XG2
variable {σ0 σ : fkS} {A : List Int32} {F : List (Nat × Nat)} {s : rwS} {p d : Nat}
theorem XM.low {L : List Int32} (h : XM σ0 (L ++ A) F s p σ) : XM σ0 A F s p (sI σ 98 4 (nI A.length)) := by
  obtain ⟨⟨a1, a2, a3⟩, ⟨c1, c2, c3, c4, c5⟩, hH, h8, h12, hr, hf⟩ := h
  rw [List.length_append] at a2
  have f0 : Fr (fun c j => Nat.beq c 98 && Nat.beq j 4) σ (sI σ 98 4 (nI A.length)) := Fr.rf.sI rfl
  refine ⟨⟨sI_ss, by omega, fun i u hu => (f0 101 i rfl).1.trans (a3 i u (rev_in (M := L) hu))⟩, ⟨(f0 98 6 rfl).1.trans c1, c2, fun i q hq => ⟨(f0 102 _ rfl).1.trans (c3 i q hq).1, (f0 102 _ rfl).1.trans (c3 i q hq).2⟩, fun z => (f0 98 7 rfl).1.trans (c4 z), c5⟩, hH.fr f0 rfl rfl rfl (fun _ => rfl) (fun _ => rfl), (f0 98 8 rfl).1.trans h8, (f0 98 12 rfl).1.trans h12, hr, hf.tr (f0.mono fun c j q => ?_)⟩
  unfold fkXC
  simp only [Bool.or_eq_true, Bool.and_eq_true, Nat.beq_eq, Nat.ble_eq] at q ⊢
  omega
theorem XM.re {A2 : List Int32} {F2 : List (Nat × Nat)} {s2 : rwS} {p2 : Nat} {σ' : fkS} (h : XM σ0 A F s p σ) (h2 : XM σ0 A2 F2 s2 p2 σ') : σ'.2.2 = σ.2.2 := h2.2.2.2.2.2.1.trans h.2.2.2.2.2.1.symm
/-- 0: elsewhere -/
theorem rx_if {v : Int32} {q : Nat} (h : XM σ0 (v :: A) F s p σ) : Dv (d + 1) 234 [.ref 98, .int (8 : Int32), .int (nI q)] σ (fun σ' => XM σ0 A F s (if v = 0 then q else p) σ') := by
  refine S_Runner_goOn ⟨fun y => absurd y (by decide), fun _ => ?_, fun y => absurd y (by decide), fun y => absurd y (by decide), fun y => absurd y (by decide), fun y => absurd y (by decide), fun y => absurd y (by decide), trivial⟩
  refine yI rfl (rx_pop h) fun x σ1 ⟨hx, h1⟩ w1 => ?_
  subst hx
  rw [w1]
  have e8 := h1.2.2.2.1
  refine ⟨fun y => ?_, fun y => ?_⟩
  · rw [e8, if_neg y]; exact ⟨h.re (h1.at2 (q := p)), h1.at2⟩
  · rw [if_pos y]; exact ⟨h.re (h1.at2 (q := q)), h1.at2⟩
theorem rx_go {q : Nat} (h : XM σ0 A F s p σ) : Dv (d + 1) 234 [.ref 98, .int (9 : Int32), .int (nI q)] σ (fun σ' => XM σ0 A F s q σ') := by
  exact S_Runner_goOn ⟨fun y => absurd y (by decide), fun y => absurd y (by decide), fun _ => ⟨rfl, h.at2⟩, fun y => absurd y (by decide), fun y => absurd y (by decide), fun y => absurd y (by decide), fun y => absurd y (by decide), trivial⟩
/-- NAMES go -/
theorem rx_unb {v : Int32} {k : Nat} {L : List Int32} (h : XM σ0 (v :: (L ++ A)) F s p σ) (hk : L.length = k) : Dv (d + 1) 234 [.ref 98, .int (13 : Int32), .int (nI k)] σ (fun σ' => XM σ0 (v :: A) F s p σ') := by
  have tl : (L ++ A).length + 1 ≤ 12000 := h.1.2.1
  rw [List.length_append] at tl
  refine S_Runner_goOn ⟨fun y => absurd y (by decide), fun y => absurd y (by decide), fun y => absurd y (by decide), fun y => absurd y (by decide), fun y => absurd y (by decide), fun y => absurd y (by decide), fun _ => ?_, trivial⟩
  refine yI rfl (rx_pop h) fun x σ1 ⟨hx, h1⟩ w1 => ?_
  subst hx
  rw [w1, h1.1.1, List.length_append, ifmax (by omega) (by omega), show L.length + A.length - k = A.length by omega]
  have h2 := h1.low
  refine yV (h.re h2) (rx_push h2 (by omega)) fun σ5 h5 w5 => ?_
  show (sW σ5 σ).2.2 = σ.2.2 ∧ _
  rw [w5]
  exact ⟨h.re h5, h5⟩
end XG2
