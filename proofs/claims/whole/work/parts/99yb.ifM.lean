/-! THE REFERENCE reads an E: if, match, two with a sign -/
section YIF
variable {t : Nat → UInt8} {n d m o g : Nat} {σ0 σ : fkS} {s : PS} {E : PS → PS × Tr} {wh : Int32}
theorem y_if (hw : ∀ s, (E s).1.2.1 = none → s.2.1 = none) (hE : YE t n σ0 (d + 5) g o E) (h : PN t n σ0 s m o σ) (h0 : s.2.1 = none) (hr : m + 3 * (401 - s.2.2) + 8 * (g + 3) ≤ 3000) : Ci (d + 6) 341 [.ref 103, .int wh] σ (YT t n σ0 o (8 * (g + 2)) s m σ (pIf t n E s)) := by
  unfold pIf
  simp only
  refine S_M_choice (d := d + 5) (vI (u_node h (by omega)) fun x σ1 ⟨hx, h1, k1, gg, r1⟩ => ?_)
  subst hx
  have D1 := ND.mk h1 k1 r1
  refine vV (u_scan (d := d + 1) D1.1 h0) fun σ2 ⟨h2, k2⟩ => ⟨D1.vi, ?_⟩
  have D2 := D1.to h2 k2
  rw [D2.1.at, D2.ck]
  have e2 : (nxt s).2.2 = s.2.2 := rfl
  have D6 := D2.st (c := 169) (v := nI (aA t n (nxt s).1)) (by decide) (by decide)
  have c0 : (nxt s).2.1 = none := rfl
  generalize es1 : nxt s = s1 at e2 D6 c0 ⊢
  refine vI (hE s1 (m + 1) _ D6.1 (fun _ => by omega)) fun x7 σ7 y7 => ⟨D6.vi, ?_⟩
  obtain ⟨m1, D7, q1, q2, q3, q4, q5⟩ := D6.E y7
  rw [if_pos c0] at q4
  generalize E s1 = r1 at D7 q1 q2 q3 q4 q5 ⊢
  have D8 := D7.st (c := 166) (v := x7) (by decide) (by decide)
  refine vV (u_word (d := d) (j := 4) (by decide) rfl D8.1) fun σ9 ⟨h9, k9⟩ => ⟨D8.vi, ?_⟩
  have D9 := D8.to h9 k9
  have e3 : (eK t n 8 r1.1).2.2 = r1.1.2.2 := rfl
  have z2 : (eK t n 8 r1.1).2.1 = none → r1.1.2.1 = none := fun z => (eK_inv z).1
  have D10 := D9.st (c := 170) (v := σ9.1 103 83) (by decide) (by decide)
  rw [show eK t n (nI (4 + 4)) r1.1 = eK t n 8 r1.1 from rfl] at D10
  generalize eK t n 8 r1.1 = s2 at e3 z2 D10 ⊢
  refine vI (hE s2 m1 _ D10.1 (fun z => by have := q5 (z2 z); omega)) fun x11 σ11 y11 => ⟨D10.vi, ?_⟩
  obtain ⟨m2, D11, p1, p2, p3, p4, p5⟩ := D10.E y11
  have w2 := hw s2
  generalize E s2 = r2 at D11 p1 p2 p3 p4 p5 w2 ⊢
  have D12 := D11.st (c := 167) (v := x11) (by decide) (by decide)
  refine vV (u_word (d := d) (j := 5) (by decide) rfl D12.1) fun σ13 ⟨h13, k13⟩ => ⟨D12.vi, ?_⟩
  have D13 := D12.to h13 k13
  have e4 : (eK t n 9 r2.1).2.2 = r2.1.2.2 := rfl
  have z3 : (eK t n 9 r2.1).2.1 = none → r2.1.2.1 = none := fun z => (eK_inv z).1
  rw [D13.1.at]
  rw [show eK t n (nI (4 + 5)) r2.1 = eK t n 9 r2.1 from rfl] at *
  have D14 := D13.st (c := 171) (v := nI (aA t n (eK t n 9 r2.1).1)) (by decide) (by decide)
  generalize eK t n 9 r2.1 = s3 at e4 z3 D14 ⊢
  refine vI (hE s3 m2 _ D14.1 (fun z => by have := p5 (z3 z); have := q5 (z2 (w2 (z3 z))); omega)) fun x15 σ15 y15 => ⟨D14.vi, ?_⟩
  obtain ⟨m3, D15, o1, o2, o3, o4, o5⟩ := D14.E y15
  have w3 := hw s3
  generalize E s3 = r3 at D15 o1 o2 o3 o4 o5 w3 ⊢
  have D16 := D15.st (c := 168) (v := x15) (by decide) (by decide)
  obtain ⟨f1, f2, f3, f0, f4, f5, f6⟩ := id D16
  have bn := nb2 (m0 := m + 1) (m1 := m1) (m2 := m2) (a0 := s.2.2) (a1 := r1.1.2.2) (a2 := r2.1.2.2) (K := 8 * (g + 1)) (z := s2.2.1 = none) (by omega) (by omega) (by omega) (fun z => by have := q5 (z2 z); omega) (by omega)
  have bn2 := nb2 (m0 := m + 1) (m1 := m2) (m2 := m3) (a0 := s.2.2) (a1 := r2.1.2.2) (a2 := r3.1.2.2) (K := 8 * (g + 1)) (z := s3.2.1 = none) (by omega) (by omega) bn (fun z => by have := p5 (z3 z); have := q5 (z2 (w2 (z3 z))); omega) (by omega)
  refine ⟨m3, f1, f2, by omega, by show s.2.2 ≤ r3.1.2.2; omega, by show m3 ≤ m + 3 * (r3.1.2.2 - s.2.2) + _; rw [if_pos h0]; omega, fun z => ?_⟩
  have a2 := z3 (w3 z)
  have a1 := z2 (w2 a2)
  have b1 := q5 a1
  have b2 := p5 a2
  have b3 := o5 z
  refine ⟨by show m3 + 2 ≤ m + 3 * (r3.1.2.2 - s.2.2); omega, at_9.mpr ⟨m, rfl, Nat.le_refl _, f4, D16.row (c := 164) (by decide) (by decide), (D16.row (c := 169) (by decide) (by decide)).trans ?_, D16.row (c := 171) (by decide) (by decide), ?_, at_20.mpr ⟨m, rfl, Nat.le_refl _, f4, ?_, ?_⟩⟩⟩
  · rw [← es1]; rfl
  · rw [show (sI σ15 168 m x15).1 166 m = x7 from D16.row (c := 166) (by decide) (by decide)]
    exact (f6.1.1.2 a1).wide (by omega) (by omega)
  · rw [show (sI σ15 168 m x15).1 167 m = x11 from D16.row (c := 167) (by decide) (by decide)]
    exact (f6.1.2 a2).wide (by omega) (by omega)
  · rw [show (sI σ15 168 m x15).1 168 m = x15 from D16.row (c := 168) (by decide) (by decide)]
    exact (f6.2 z).wide (by omega) (by omega)
theorem y_ma (hw : ∀ s, (E s).1.2.1 = none → s.2.1 = none) (hE : YE t n σ0 (d + 5) g o E) (h : PN t n σ0 s m o σ) (h0 : s.2.1 = none) (hr : m + 3 * (401 - s.2.2) + 8 * (g + 3) ≤ 3000) : Ci (d + 6) 342 [.ref 103, .int wh] σ (YT t n σ0 o (8 * (g + 2)) s m σ (pMa t n E s)) := by
  unfold pMa
  simp only
  refine S_M_match (d := d + 5) (vI (u_node h (by omega)) fun x σ1 ⟨hx, h1, k1, gg, r1⟩ => ?_)
  subst hx
  have D1 := ND.mk h1 k1 r1
  refine vV (u_scan (d := d + 1) D1.1 h0) fun σ2 ⟨h2, k2⟩ => ⟨D1.vi, ?_⟩
  have D2 := D1.to h2 k2
  rw [D2.1.at, D2.ck]
  have e2 : (nxt s).2.2 = s.2.2 := rfl
  have D6 := D2.st (c := 169) (v := nI (aA t n (nxt s).1)) (by decide) (by decide)
  have c0 : (nxt s).2.1 = none := rfl
  generalize es1 : nxt s = s1 at e2 D6 c0 ⊢
  refine vI (hE s1 (m + 1) _ D6.1 (fun _ => by omega)) fun x7 σ7 y7 => ⟨D6.vi, ?_⟩
  obtain ⟨m1, D7, q1, q2, q3, q4, q5⟩ := D6.E y7
  rw [if_pos c0] at q4
  generalize E s1 = r1 at D7 q1 q2 q3 q4 q5 ⊢
  have D8 := D7.st (c := 166) (v := x7) (by decide) (by decide)
  refine vV (u_word (d := d) (j := 7) (by decide) rfl D8.1) fun σ9 ⟨h9, k9⟩ => ?_
  have D9 := D8.to h9 k9
  refine vV (u_word (d := d) (j := 8) (by decide) rfl D9.1) fun σ10 ⟨h10, k10⟩ => ?_
  have D10 := D9.to h10 k10
  refine vV (u_sign (d := d) (k := 129) (by decide) rfl D10.1) fun σ11 ⟨h11, k11⟩ => ⟨D10.vi, ?_⟩
  have D11 := D10.to h11 k11
  rw [show eK t n (nI 129) (eK t n (nI (4 + 8)) (eK t n (nI (4 + 7)) r1.1)) = eK t n 129 (eK t n 12 (eK t n 11 r1.1)) from rfl] at D11
  have e3 : (eK t n 129 (eK t n 12 (eK t n 11 r1.1))).2.2 = r1.1.2.2 := rfl
  have z2 : (eK t n 129 (eK t n 12 (eK t n 11 r1.1))).2.1 = none → r1.1.2.1 = none := fun z => (eK_inv (eK_inv (eK_inv z).1).1).1
  generalize eK t n 129 (eK t n 12 (eK t n 11 r1.1)) = s2 at e3 z2 D11 ⊢
  have D12 := D11.st (c := 170) (v := σ11.1 103 83) (by decide) (by decide)
  refine vI (hE s2 m1 _ D12.1 (fun z => by have := q5 (z2 z); omega)) fun x13 σ13 y13 => ⟨D12.vi, ?_⟩
  obtain ⟨m2, D13, p1, p2, p3, p4, p5⟩ := D12.E y13
  have w2 := hw s2
  generalize E s2 = r2 at D13 p1 p2 p3 p4 p5 w2 ⊢
  have D14 := D13.st (c := 167) (v := x13) (by decide) (by decide)
  refine vV (u_sign (d := d) (k := 124) (by decide) rfl D14.1) fun σ15 ⟨h15, k15⟩ => ?_
  have D15 := D14.to h15 k15
  rw [show eK t n (nI 124) r2.1 = eK t n 124 r2.1 from rfl] at D15
  have e4 : (eK t n 124 r2.1).2.2 = r2.1.2.2 := rfl
  have z3 : (eK t n 124 r2.1).2.1 = none → r2.1.2.1 = none := fun z => (eK_inv z).1
  generalize eK t n 124 r2.1 = s3 at e4 z3 D15 ⊢
  refine vV (u_name (d := d) D15.1) fun σ16 ⟨h16, k16, e86, e87⟩ => ⟨D15.vi, D15.vi, ?_⟩
  have D16 := D15.to h16 k16
  rw [e86]
  generalize σ16.1 103 87 = v3 at e87 ⊢
  have D17 := (D16.st (c := 172) (v := nI (aA t n s3.1)) (by decide) (by decide)).st (c := 173) (v := v3) (by decide) (by decide)
  refine vV (u_sign (d := d) (k := 44) (by decide) rfl D17.1) fun σ18 ⟨h18, k18⟩ => ?_
  have D18 := D17.to h18 k18
  rw [show eK t n (nI 44) (eK t n 1 s3) = eK t n 44 (eK t n 1 s3) from rfl] at D18
  have e5 : (eK t n 44 (eK t n 1 s3)).2.2 = r2.1.2.2 := e4
  have z4 : (eK t n 44 (eK t n 1 s3)).2.1 = none → s3.2.1 = none ∧ kA t n s3.1 = 1 := fun z => ⟨(eK_inv (eK_inv z).1).1, (eK_inv (eK_inv z).1).2.1⟩
  generalize eK t n 44 (eK t n 1 s3) = s4 at e5 z4 D18 ⊢
  refine vV (u_name (d := d) D18.1) fun σ19 ⟨h19, k19, e88, e89⟩ => ⟨D18.vi, D18.vi, ?_⟩
  have D19 := D18.to h19 k19
  rw [e88]
  generalize σ19.1 103 87 = v4 at e89 ⊢
  have D20 := (D19.st (c := 174) (v := nI (aA t n s4.1)) (by decide) (by decide)).st (c := 175) (v := v4) (by decide) (by decide)
  refine vV (u_sign (d := d) (k := 129) (by decide) rfl D20.1) fun σ21 ⟨h21, k21⟩ => ⟨D20.vi, ?_⟩
  have D21 := D20.to h21 k21
  rw [show eK t n (nI 129) (eK t n 1 s4) = eK t n 129 (eK t n 1 s4) from rfl] at D21
  have e6 : (eK t n 129 (eK t n 1 s4)).2.2 = r2.1.2.2 := e5
  have z5 : (eK t n 129 (eK t n 1 s4)).2.1 = none → s4.2.1 = none ∧ kA t n s4.1 = 1 := fun z => ⟨(eK_inv (eK_inv z).1).1, (eK_inv (eK_inv z).1).2.1⟩
  generalize eK t n 129 (eK t n 1 s4) = s5 at e6 z5 D21 ⊢
  rw [D21.1.at]
  have D22 := D21.st (c := 171) (v := nI (aA t n s5.1)) (by decide) (by decide)
  have z6 : s5.2.1 = none → r2.1.2.1 = none := fun z => z3 (z4 (z5 z).1).1
  refine vI (hE s5 m2 _ D22.1 (fun z => by have := p5 (z6 z); have := q5 (z2 (w2 (z6 z))); omega)) fun x23 σ23 y23 => ⟨D22.vi, ?_⟩
  obtain ⟨m3, D23, o1, o2, o3, o4, o5⟩ := D22.E y23
  have w5 := hw s5
  generalize E s5 = r3 at D23 o1 o2 o3 o4 o5 w5 ⊢
  have D24 := D23.st (c := 168) (v := x23) (by decide) (by decide)
  obtain ⟨f1, f2, f3, f0, f4, f5, f6⟩ := id D24
  have bn := nb2 (m0 := m + 1) (m1 := m1) (m2 := m2) (a0 := s.2.2) (a1 := r1.1.2.2) (a2 := r2.1.2.2) (K := 8 * (g + 1)) (z := s2.2.1 = none) (by omega) (by omega) (by omega) (fun z => by have := q5 (z2 z); omega) (by omega)
  have bn2 := nb2 (m0 := m + 1) (m1 := m2) (m2 := m3) (a0 := s.2.2) (a1 := r2.1.2.2) (a2 := r3.1.2.2) (K := 8 * (g + 1)) (z := s5.2.1 = none) (by omega) (by omega) bn (fun z => by have := p5 (z6 z); have := q5 (z2 (w2 (z6 z))); omega) (by omega)
  refine ⟨m3, f1, f2, by omega, by show s.2.2 ≤ r3.1.2.2; omega, by show m3 ≤ m + 3 * (r3.1.2.2 - s.2.2) + _; rw [if_pos h0]; omega, fun z => ?_⟩
  have y5 := w5 z
  have y4 := (z5 y5).1
  have a2 := z6 y5
  have a1 := z2 (w2 a2)
  have b1 := q5 a1
  have b2 := p5 a2
  have b3 := o5 z
  refine ⟨by show m3 + 2 ≤ m + 3 * (r3.1.2.2 - s.2.2); omega, at_10.mpr ⟨m, rfl, Nat.le_refl _, f4, D24.row (c := 164) (by decide) (by decide), (D24.row (c := 169) (by decide) (by decide)).trans ?_, D24.row (c := 171) (by decide) (by decide), ?_, at_22.mpr ⟨m, rfl, Nat.le_refl _, f4, D24.row (c := 172) (by decide) (by decide), (D24.row (c := 173) (by decide) (by decide)).trans (e87 (z4 y4).2), D24.row (c := 174) (by decide) (by decide), (D24.row (c := 175) (by decide) (by decide)).trans (e89 (z5 y5).2), ?_, ?_⟩⟩⟩
  · rw [← es1]; rfl
  · rw [show (sI σ23 168 m x23).1 166 m = x7 from D24.row (c := 166) (by decide) (by decide)]
    exact (f6.1.1.2 a1).wide (by omega) (by omega)
  · rw [show (sI σ23 168 m x23).1 167 m = x13 from D24.row (c := 167) (by decide) (by decide)]
    exact (f6.1.2 a2).wide (by omega) (by omega)
  · rw [show (sI σ23 168 m x23).1 168 m = x23 from D24.row (c := 168) (by decide) (by decide)]
    exact (f6.2 z).wide (by omega) (by omega)
end YIF
