/-! THE REFERENCE reads a PROGRAM -/
def fkMY (c j : Nat) : Bool := fkMP c j || (Nat.ble 154 c && Nat.ble c 163) || (Nat.beq c 103 && (Nat.beq j 79 || Nat.beq j 97 || Nat.beq j 118))
section MY
variable {t : Nat → UInt8} {n d m : Nat} {σ0 σ : fkS} {s : PS}
theorem Fr.my {f : Nat} {σ' : fkS} (h : Fr (fkMX f) σ σ') : Fr fkMY σ σ' := h.mono fun c j q => by
  unfold fkMX at q
  unfold fkMY
  simp only [Bool.or_eq_true, Bool.and_eq_true, Nat.beq_eq, Nat.ble_eq] at q ⊢
  rcases q with ((q | q) | q) | q
  · exact Or.inl (Or.inl q)
  · exact Or.inl (Or.inr (by omega))
  · exact Or.inl (Or.inr (by omega))
  · exact Or.inr (by omega)
theorem Fr.my2 {σ' : fkS} (h : Fr fkMP σ σ') : Fr fkMY σ σ' := h.mono fun c j q => by unfold fkMY; rw [q]; rfl
theorem tk_0 {o : Nat} (h : PN t n σ0 s m o σ) : σ.1 103 82 = 0 ↔ kA t n s.1 = 0 := by
  rw [h.1.1.2.1]
  have h4 := tkAt_k4 (t := t) (n := n) s.1
  refine Iff.trans ?_ (kX_num (t := t) (n := n) (i := s.1)).2.symm
  unfold mK
  by_cases q : (tkAt t n s.1).1 = 4
  · rw [if_pos q]; exact ⟨fun z => absurd z (by decide), fun z => by omega⟩
  · rw [if_neg q]; exact nI_eq (b := 0) (by omega) (by decide)
theorem w_progM (hn : n ≤ 4000) (hd : 248 ≤ d + 5) {Q : Option Value → fkS → Prop} : ∀ (fu k : Nat) (s : PS) (m : Nat) (σ : fkS) (D : List FD), fu + k = 20 → D.length = k → 1 ≤ k → PN t n σ s m 0 σ → (s.2.1 = none → σ.1 103 97 = nI k ∧ dM D m σ ∧ m ≤ 3 * s.2.2) →
    (∀ σ' m', PN t n σ' (pPg t n fu s D).1 m' 0 σ' → Fr fkMY σ σ' → ¬ (pPg t n fu s D).1.2.1 = none → Wq 324 (d + 7) 145 [some (.ref 103), none, none, none] [] σ' Q) →
    (∀ σ' m', PN t n σ' (pPg t n fu s D).1 m' 0 σ' → Fr fkMY σ σ' → (pPg t n fu s D).1.2.1 = none → σ'.1 103 97 = nI (pPg t n fu s D).2.length → dM (pPg t n fu s D).2 m' σ' → Cv (d + 6) 350 [.ref 103] σ' (fun σ1 => Wq 324 (d + 7) 145 [some (.ref 103), none, none, none] [] σ1 Q)) →
    Wq 324 (d + 7) 93 [some (.ref 103), none, none, none] [] σ Q := by
  intro fu
  induction fu with
  | zero =>
    intro k s m σ D hk hD hk1 h hI hB hO
    rw [pPg] at hB hO
    have k20 : k = 20 := by omega
    refine S_M_program_93 (d := d + 6) ⟨fun y => ?_, fun y => ?_⟩
    · have z := h.lt.1.mp y
      rw [if_neg (fun c => z c.1)] at hB
      exact ⟨fun _ => hB σ m h Fr.rf z, fun y2 => absurd y y2⟩
    · have z : s.2.1 = none := Classical.byContradiction fun c => y (h.lt.1.mpr c)
      obtain ⟨h97, hDm, hm⟩ := hI z
      rw [tk_0 h, h97, h.at]
      refine ⟨fun y2 => ⟨fun y3 => absurd y3 y, fun _ => ?_⟩, fun y2 => ⟨fun y3 => absurd ?_ y3, fun _ => ?_⟩⟩
      · rw [if_neg (fun c => c.2 y2)] at hO
        exact hO σ m h Fr.rf z (by rw [h97, hD]) hDm
      · rw [k20]; rfl
      · rw [if_pos ⟨z, y2⟩] at hB
        refine vV (u_wrong rfl h z) fun σ2 ⟨h2, k2⟩ => ?_
        have y4 : 0 ≤ σ2.1 103 81 := h2.lt.1.mpr (fun c => by cases c)
        exact S_M_program_93 (d := d + 6) ⟨fun _ => ⟨fun _ => hB σ2 m h2.base h2.pp.my2 (fun c => by cases c), fun y5 => absurd y4 y5⟩, fun y5 => absurd y4 y5⟩
  | succ fu ih =>
    intro k s m σ D hk hD hk1 h hI hB hO
    rw [pPg] at hB hO
    have ne : D ≠ [] := fun c => by rw [c] at hD; simp at hD; omega
    refine S_M_program_93 (d := d + 6) ⟨fun y => ?_, fun y => ?_⟩
    · have z := h.lt.1.mp y
      rw [if_neg (fun c => z c.1)] at hB
      exact ⟨fun _ => hB σ m h Fr.rf z, fun y2 => absurd y y2⟩
    · have z : s.2.1 = none := Classical.byContradiction fun c => y (h.lt.1.mpr c)
      obtain ⟨h97, hDm, hm⟩ := hI z
      have a4 := h.2.2.2.2.1 z
      rw [tk_0 h, h97, h.at]
      refine ⟨fun y2 => ⟨fun y3 => absurd y3 y, fun _ => ?_⟩, fun y2 => ⟨fun _ => ?_, fun y3 => ?_⟩⟩
      · rw [if_neg (fun c => c.2.elim ne (fun q => q y2))] at hO
        exact hO σ m h Fr.rf z (by rw [h97, hD]) hDm
      · rw [if_pos ⟨z, Or.inr y2⟩] at hB hO
        refine vV (m_def (d := d) hn hD (by omega) hd h z h97 hDm (by omega)) fun σ2 ⟨m2, h2, F2, g2⟩ => ?_
        refine ih (k + 1) _ m2 σ2 _ (by omega) (by rw [List.length_append, hD]; rfl) (by omega) h2 (fun z2 => ?_) (fun σ' m' b1 b2 b3 => hB σ' m' b1 (F2.my.tr b2) b3) (fun σ' m' b1 b2 b3 b4 b5 => hO σ' m' b1 (F2.my.tr b2) b3 b4 b5)
        obtain ⟨c1, c2, c3⟩ := g2 z2
        have := (pDf_inv hn z2).2.2.1
        exact ⟨c1, c2, by omega⟩
      · have := (nI_eq (a := k) (b := 20) (by omega) (by decide)).mp y3
        omega
end MY
