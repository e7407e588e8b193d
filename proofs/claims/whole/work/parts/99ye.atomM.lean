/-! THE REFERENCE reads an ATOM: all of it; an E -/
section YA
variable {t : Nat → UInt8} {n d o g m : Nat} {σ0 σ : fkS} {s : PS} {E : PS → PS × Tr}
/-- before the ATOM was counted -/
def bA (s : PS) : PS := (s.1, none, s.2.2 - 1)
/-- cons, do -/
theorem y_pr (hw : ∀ s, (E s).1.2.1 = none → s.2.1 = none) (hE : YE t n σ0 (d + 5) g o E) {k : Nat} {kd : Int32} (hk : k = 6 ∧ kd = 6 ∨ k = 7 ∧ kd = 7) (h : PN t n σ0 s m o σ) (h0 : s.2.1 = none) (h1a : 1 ≤ s.2.2) (hr : m + 3 * (401 - s.2.2) + (8 * (g + 2) + 4) ≤ 3000) {wh : Int32} : Wq 348 (d + 6) 163 [some (.ref 103), some (.int wh), none, none, none, none] [.int kd, .ref 103] σ (Qi (YT t n σ0 o (8 * (g + 1) + 4) (bA s) m σ (pPr t n E k s))) := by
  unfold pPr
  simp only
  refine S_M_simple_163 (d := d + 5) (vI (u_node h (by omega)) fun x σ1 ⟨hx, h1, k1, gg, r1⟩ => ?_)
  subst hx
  have D1 := ND.mk h1 k1 r1
  refine vV (u_scan (d := d + 1) D1.1 h0) fun σ2 ⟨h2, k2⟩ => ?_
  have D2 := D1.to h2 k2
  refine vV (u_sign (d := d) (k := 40) (by decide) rfl D2.1) fun σ3 ⟨h3, k3⟩ => ⟨D1.vi, ?_⟩
  have D3 := D2.to h3 k3
  rw [show eK t n (nI 40) (nxt s) = eK t n 40 (nxt s) from rfl] at D3
  have e2 : (eK t n 40 (nxt s)).2.2 = s.2.2 := rfl
  rw [D3.1.at, D3.ck]
  generalize eK t n 40 (nxt s) = s1 at e2 D3 ⊢
  have D6 := D3.st (c := 169) (v := nI (aA t n s1.1)) (by decide) (by decide)
  refine vI (hE s1 (m + 1) _ D6.1 (fun _ => by omega)) fun x7 σ7 y7 => ⟨D6.vi, ?_⟩
  obtain ⟨m1, D7, q1, q2, q3, q4, q5⟩ := D6.E y7
  have c1 := if_le (c := s1.2.1 = none) (K := 8 * (g + 1))
  generalize E s1 = r1 at D7 q1 q2 q3 q4 q5 ⊢
  have D8 := D7.st (c := 166) (v := x7) (by decide) (by decide)
  refine vV (u_sign (d := d) (k := 44) (by decide) rfl D8.1) fun σ9 ⟨h9, k9⟩ => ⟨D8.vi, ?_⟩
  have D9 := D8.to h9 k9
  rw [show eK t n (nI 44) r1.1 = eK t n 44 r1.1 from rfl] at D9
  have e3 : (eK t n 44 r1.1).2.2 = r1.1.2.2 := rfl
  have z2 : (eK t n 44 r1.1).2.1 = none → r1.1.2.1 = none := fun z => (eK_inv z).1
  rw [D9.1.at]
  generalize eK t n 44 r1.1 = s2 at e3 z2 D9 ⊢
  have D10 := D9.st (c := 170) (v := nI (aA t n s2.1)) (by decide) (by decide)
  refine vI (hE s2 m1 _ D10.1 (fun z => by have := q5 (z2 z); omega)) fun x11 σ11 y11 => ⟨D10.vi, ?_⟩
  obtain ⟨m2, D11, p1, p2, p3, p4, p5⟩ := D10.E y11
  have w2 := hw s2
  generalize E s2 = r2 at D11 p1 p2 p3 p4 p5 w2 ⊢
  have D12 := D11.st (c := 167) (v := x11) (by decide) (by decide)
  refine vV (u_sign (d := d) (k := 41) (by decide) rfl D12.1) fun σ13 ⟨h13, k13⟩ => ?_
  have D13 := D12.to h13 k13
  rw [show eK t n (nI 41) r2.1 = eK t n 41 r2.1 from rfl] at D13
  obtain ⟨f1, f2, f3, f0, f4, f5, f6⟩ := id D13
  have bn := nb2 (m0 := m + 1) (m1 := m1) (m2 := m2) (a0 := s.2.2) (a1 := r1.1.2.2) (a2 := r2.1.2.2) (K := 8 * (g + 1)) (z := s2.2.1 = none) (by omega) (by omega) (by omega) (fun z => by have := q5 (z2 z); omega) (by omega)
  refine ⟨m2, f1, f2, by omega, by show s.2.2 - 1 ≤ r2.1.2.2; omega, by show m2 ≤ m + 3 * (r2.1.2.2 - (s.2.2 - 1)) + (if (none : Option Nat) = none then _ else _); rw [if_pos rfl]; omega, fun z => ?_⟩
  have z3 := (eK_inv z).1
  have a1 := z2 (w2 z3)
  have a2 := q5 a1
  have a3 := p5 z3
  have l1 : At r1.2 0 (σ13.1 166 m) m m2 σ13 := by
    rw [show σ13.1 166 m = x7 from D13.row (c := 166) (by decide) (by decide)]
    exact (f6.1.2 a1).wide (by omega) (by omega)
  have l2 : At r2.2 0 (σ13.1 167 m) m m2 σ13 := by
    rw [show σ13.1 167 m = x11 from D13.row (c := 167) (by decide) (by decide)]
    exact (f6.2 z3).wide (by omega) (by omega)
  refine ⟨by show m2 + 2 ≤ m + 3 * (r2.1.2.2 - (s.2.2 - 1)); omega, ?_⟩
  rcases hk with ⟨rfl, rfl⟩ | ⟨rfl, rfl⟩
  · exact at_6.mpr ⟨m, rfl, Nat.le_refl _, f4, D13.row (c := 164) (by decide) (by decide), D13.row (c := 169) (by decide) (by decide), D13.row (c := 170) (by decide) (by decide), l1, l2⟩
  · exact at_7.mpr ⟨m, rfl, Nat.le_refl _, f4, D13.row (c := 164) (by decide) (by decide), D13.row (c := 169) (by decide) (by decide), D13.row (c := 170) (by decide) (by decide), l1, l2⟩
/-- an ATOM without signs that is one node -/
theorem YT.leaf {K : Nat} {r : PS × Tr} {x : Int32} {σ' : fkS} (h1a : 1 ≤ s.2.2) (hp : PN t n σ0 r.1 (m + 1) o σ') (hk : Kp m σ σ') (ha : r.1.2.2 = s.2.2) (hA : r.1.2.1 = none → At r.2 0 x m (m + 1) σ') : YT t n σ0 o K (bA s) m σ r x σ' :=
  ⟨m + 1, hp, hk, by omega, by show s.2.2 - 1 ≤ r.1.2.2; omega, by show m + 1 ≤ m + 3 * (r.1.2.2 - (s.2.2 - 1)) + _; omega, fun z => ⟨by show m + 1 + 2 ≤ m + 3 * (r.1.2.2 - (s.2.2 - 1)); omega, hA z⟩⟩
theorem tk_2 {h : PN t n σ0 s m o σ} : σ.1 103 82 = 2 ↔ kA t n s.1 = 2 := by
  rw [h.1.1.2.1]
  have h4 := tkAt_k4 (t := t) (n := n) s.1
  refine Iff.trans ?_ (kX_num (t := t) (n := n) (i := s.1)).1.symm
  unfold mK
  by_cases q : (tkAt t n s.1).1 = 4
  · rw [if_pos q]; exact ⟨fun z => absurd z (by decide), fun z => by omega⟩
  · rw [if_neg q]; exact nI_eq (b := 2) (by omega) (by decide)
theorem y_simple (hn : n ≤ 4000) (hw : ∀ s, (E s).1.2.1 = none → s.2.1 = none) (hE : YE t n σ0 (d + 5) g o E) (h : PN t n σ0 s m o σ) (h0 : s.2.1 = none) (h1a : 1 ≤ s.2.2) (hr : m + 3 * (401 - s.2.2) + (8 * (g + 2) + 4) ≤ 3000) : Ci (d + 6) 348 [.ref 103, .int (nI (aA t n s.1))] σ (YT t n σ0 o (8 * (g + 1) + 4) (bA s) m σ (pPl t n E s)) := by
  have hm : m < 3000 := by omega
  refine S_M_simple (d := d + 5) ⟨fun y => ?_, fun y => ?_⟩
  · have n2 : ¬ kA t n s.1 = 2 := fun q => y ((tk_2 (h := h)).mpr q)
    refine vI (u_isSg (k := 40) (by decide) rfl h) fun x1 σ1 ⟨e1, i1⟩ => ?_
    subst e1
    refine ⟨fun y1 => ?_, fun y1 => ?_⟩
    · have n40 : ¬ kA t n s.1 = 40 := fun q => i1.mp y1 ⟨h0, q⟩
      refine vI (u_isSg (k := 38) (by decide) rfl h) fun x2 σ2 ⟨e2, i2⟩ => ?_
      subst e2
      refine ⟨fun y2 => ?_, fun y2 => ?_⟩
      · have n38 : ¬ kA t n s.1 = 38 := fun q => i2.mp y2 ⟨h0, q⟩
        refine vI (u_isKw (d := d + 1) (j := 8) (by decide) rfl h) fun x3 σ3 ⟨e3, i3⟩ => ?_
        subst e3
        refine ⟨fun y3 => ?_, fun y3 => ?_⟩
        · have n12 : ¬ kA t n s.1 = 12 := fun q => i3.mp y3 ⟨h0, q⟩
          refine vI (u_isKw (d := d + 1) (j := 9) (by decide) rfl h) fun x4 σ4 ⟨e4, i4⟩ => ?_
          subst e4
          refine ⟨fun y4 => ?_, fun y4 => ?_⟩
          · have k13 : kA t n s.1 = 13 := (Classical.not_not.mp fun q => y4 (i4.mpr q)).2
            have ep : pPl t n E s = pPr t n E 6 s := by
              unfold pPl
              rw [if_neg (by rw [k13]; decide), if_neg n2, if_neg n12, if_pos k13]
            rw [ep]
            refine vI (u_isKw (d := d + 1) (j := 9) (by decide) rfl h) fun x5 σ5 ⟨e5, i5⟩ => ?_
            subst e5
            exact ⟨fun y5 => absurd ⟨h0, k13⟩ (i5.mp y5), fun _ => y_pr (d := d) hw hE (Or.inl ⟨rfl, rfl⟩) h h0 h1a hr⟩
          · have n13 : ¬ kA t n s.1 = 13 := fun q => i4.mp y4 ⟨h0, q⟩
            refine vI (u_isKw (d := d + 1) (j := 10) (by decide) rfl h) fun x5 σ5 ⟨e5, i5⟩ => ?_
            subst e5
            refine ⟨fun y5 => ?_, fun y5 => ?_⟩
            · have n14 : ¬ kA t n s.1 = 14 := fun q => i5.mp y5 ⟨h0, q⟩
              refine vI (u_node h hm) fun x σ6 ⟨hx, h6, k6, gg, r6⟩ => ?_
              subst hx
              have D1 := ND.mk h6 k6 r6
              refine vV (u_name (d := d) D1.1) fun σ7 ⟨h7, k7, e86, e87⟩ => ⟨D1.vi, D1.vi, ?_⟩
              have D2 := D1.to h7 k7
              rw [e86, D2.ck]
              generalize σ7.1 103 87 = v3 at e87 ⊢
              have D3 := (D2.st (c := 172) (v := nI (aA t n s.1)) (by decide) (by decide)).st (c := 173) (v := v3) (by decide) (by decide)
              refine vI (u_isSg (k := 40) (by decide) rfl D3.1) fun x8 σ8 ⟨e8, i8⟩ => ?_
              subst e8
              by_cases k1 : kA t n s.1 = 1
              · have v3e := e87 k1
                subst v3e
                rw [eK_ok k1 h0] at D3 i8
                refine ⟨fun y8 => ⟨D3.vi, ?_⟩, fun y8 => ?_⟩
                · have k40 : kA t n (s.1 + 1) = 40 := (Classical.not_not.mp fun q => y8 (i8.mpr q)).2
                  have ep : pPl t n E s = (eK t n 41 (pAr t n E (aA t n s.1) (zA t n s.1) 401 0 (nxt (nxt s))).1, nd 3 (aA t n s.1) (zA t n s.1) (cnt (pAr t n E (aA t n s.1) (zA t n s.1) 401 0 (nxt (nxt s))).2) 0 (pAr t n E (aA t n s.1) (zA t n s.1) 401 0 (nxt (nxt s))).2 .leaf) := by
                    unfold pPl
                    rw [if_pos k1, if_pos k40]
                  rw [ep]
                  have D4 := D3.st (c := 164) (v := 3) (by decide) (by decide)
                  have D4' := D4
                  obtain ⟨f1, f2, f3, f0, f4, f5, f6⟩ := D4'
                  refine w_args (d := d + 1) (a := aA t n s.1) (z := zA t n s.1) hw (kc := m) (fun s m σ h hr => hE s m σ h hr) 401 0 0 166 m (m + 1) (nxt s) _ 1 (by decide) f1 rfl (by omega) (by show m + 1 + 3 * (401 - s.2.2) + 8 * (g + 2) + 1 ≤ 3000; omega) (Nat.lt_succ_self m) (Nat.lt_succ_self m) (Or.inl ⟨rfl, rfl⟩) (D4.row (c := 176) (by decide) (by decide)) (Nat.zero_le _) fun σ' A => ?_
                  generalize pAr t n E (aA t n s.1) (zA t n s.1) 401 0 (nxt (nxt s)) = r at A ⊢
                  obtain ⟨m', x', a1, a2, a3, a4, a5, a6, a7, a8⟩ := A
                  have a4' : s.2.2 ≤ r.1.2.2 := a4
                  have a5' : m' ≤ m + 1 + 3 * (r.1.2.2 - s.2.2) + (8 * (g + 1) + 1) := a5
                  refine vV (u_sign (d := d) (k := 41) (by decide) rfl a1) fun σ9 ⟨h9, k9⟩ => ?_
                  rw [show eK t n (nI 41) r.1 = eK t n 41 r.1 from rfl] at h9
                  refine ⟨m', h9, ?_, by omega, by show s.2.2 - 1 ≤ r.1.2.2; omega, by show m' ≤ m + 3 * (r.1.2.2 - (s.2.2 - 1)) + (if (none : Option Nat) = none then _ else _); rw [if_pos rfl]; omega, fun z => ?_⟩
                  · intro c j b1 b2 b3
                    exact (k9 c j b1 b2 (by omega)).trans ((a2 c j b1 b2 (by omega) (by omega) (by omega)).trans (f2 c j b1 b2 b3))
                  · have z1 := (eK_inv z).1
                    obtain ⟨b6, b7⟩ := a8 z1
                    have b6' : m' ≤ m + 1 + 3 * (r.1.2.2 - s.2.2) := b6
                    have rw1 : ∀ c, 164 ≤ c → c ≤ 176 → ¬ c = 166 → ¬ c = 176 → σ9.1 c m = _ := fun c b1 b2 b3 b4 => (k9 c m b1 b2 (by omega)).trans ((a2 c m b1 b2 (by omega) (by omega) (by omega)).trans (D4.row b1 b2))
                    refine ⟨by show m' + 2 ≤ m + 3 * (r.1.2.2 - (s.2.2 - 1)); omega, at_3.mpr ⟨m, rfl, Nat.le_refl _, by omega, rw1 164 (by decide) (by decide) (by decide) (by decide), rw1 172 (by decide) (by decide) (by decide) (by decide), rw1 173 (by decide) (by decide) (by decide) (by decide), ?_, ?_⟩⟩
                    · rw [k9 176 m (by decide) (by decide) (by omega), a6, Nat.zero_add]
                    · rw [k9 166 m (by decide) (by decide) (by omega), a7]
                      exact (k9.at (Nat.le_refl _) b7).wide (by omega) (Nat.le_refl _)
                · have k40 : ¬ kA t n (s.1 + 1) = 40 := fun q => i8.mp y8 ⟨rfl, q⟩
                  have ep : pPl t n E s = (nxt s, nd 2 (aA t n s.1) (zA t n s.1) 0 0 .leaf .leaf) := by
                    unfold pPl
                    rw [if_pos k1, if_neg k40]
                  rw [ep]
                  exact YT.leaf h1a D3.1 D3.2.1 rfl fun _ => at_2.mpr ⟨m, rfl, Nat.le_refl _, Nat.lt_succ_self m, D3.row (c := 164) (by decide) (by decide), D3.row (c := 172) (by decide) (by decide), D3.row (c := 173) (by decide) (by decide)⟩
              · rw [eK_ft k1 h0] at D3 i8
                have ep : pPl t n E s = (ft t n s, .leaf) := by
                  unfold pPl
                  rw [if_neg k1, if_neg n2, if_neg n12, if_neg n13, if_neg n14, if_neg n38, if_neg n40]
                rw [ep]
                have x0 : x8 = 0 := i8.mpr fun q => by cases q.1
                exact ⟨fun y8 => absurd x0 y8, fun _ => YT.leaf h1a D3.1 D3.2.1 rfl fun z => by cases z⟩
            · have k14 : kA t n s.1 = 14 := (Classical.not_not.mp fun q => y5 (i5.mpr q)).2
              have ep : pPl t n E s = pPr t n E 7 s := by
                unfold pPl
                rw [if_neg (by rw [k14]; decide), if_neg n2, if_neg n12, if_neg n13, if_pos k14]
              rw [ep]
              refine vI (u_isKw (d := d + 1) (j := 9) (by decide) rfl h) fun x6 σ6 ⟨e6, i6⟩ => ?_
              subst e6
              exact ⟨fun _ => y_pr (d := d) hw hE (Or.inr ⟨rfl, rfl⟩) h h0 h1a hr, fun y6 => absurd (i6.mpr fun q => n13 q.2) y6⟩
        · have k12 : kA t n s.1 = 12 := (Classical.not_not.mp fun q => y3 (i3.mpr q)).2
          have ep : pPl t n E s = (nxt s, nd 5 (aA t n s.1) 0 0 0 .leaf .leaf) := by
            unfold pPl
            rw [if_neg (by rw [k12]; decide), if_neg n2, if_pos k12]
          rw [ep]
          refine vV (u_scan (d := d + 1) h h0) fun σ4 ⟨h4, k4⟩ => ?_
          refine vI (u_node h4 hm) fun x σ5 ⟨hx, h5, k5, gg, r5⟩ => ?_
          subst hx
          exact YT.leaf h1a h5 (k4.tr k5) rfl fun _ => at_5.mpr ⟨m, rfl, Nat.le_refl _, Nat.lt_succ_self m, r5 164 (by decide) (by decide)⟩
      · have k38 : kA t n s.1 = 38 := (Classical.not_not.mp fun q => y2 (i2.mpr q)).2
        have ep : pPl t n E s = (eK t n 1 (nxt s), nd 4 (aA t n (s.1 + 1)) (zA t n (s.1 + 1)) (aA t n s.1) 0 .leaf .leaf) := by
          unfold pPl
          rw [if_neg (by rw [k38]; decide), if_neg n2, if_neg (by rw [k38]; decide), if_neg (by rw [k38]; decide), if_neg (by rw [k38]; decide), if_pos k38]
        rw [ep]
        refine vI (u_node h hm) fun x σ5 ⟨hx, h5, k5, gg, r5⟩ => ?_
        subst hx
        have D1 := ND.mk h5 k5 r5
        refine vV (u_scan (d := d + 1) D1.1 h0) fun σ6 ⟨h6, k6⟩ => ?_
        have D2 := D1.to h6 k6
        refine vV (u_name (d := d) D2.1) fun σ7 ⟨h7, k7, e86, e87⟩ => ⟨D2.vi, D2.vi, ?_⟩
        have D3 := D2.to h7 k7
        rw [e86, D3.ck]
        generalize σ7.1 103 87 = v3 at e87 ⊢
        have D4 := (D3.st (c := 172) (v := nI (aA t n (nxt s).1)) (by decide) (by decide)).st (c := 173) (v := v3) (by decide) (by decide)
        exact YT.leaf h1a D4.1 D4.2.1 rfl fun z => at_4.mpr ⟨m, rfl, Nat.le_refl _, Nat.lt_succ_self m, D4.row (c := 164) (by decide) (by decide), D4.row (c := 165) (by decide) (by decide), D4.row (c := 172) (by decide) (by decide), (D4.row (c := 173) (by decide) (by decide)).trans (e87 (eK_inv z).2.1)⟩
    · have k40 : kA t n s.1 = 40 := (Classical.not_not.mp fun q => y1 (i1.mpr q)).2
      have ep : pPl t n E s = (eK t n 41 (E (nxt s)).1, (E (nxt s)).2) := by
        unfold pPl
        rw [if_neg (by rw [k40]; decide), if_neg n2, if_neg (by rw [k40]; decide), if_neg (by rw [k40]; decide), if_neg (by rw [k40]; decide), if_neg (by rw [k40]; decide), if_pos k40]
      rw [ep]
      refine vV (u_scan (d := d + 1) h h0) fun σ2 ⟨h2, k2⟩ => ?_
      refine vI (hE _ _ _ h2 (fun _ => by show m + 3 * (401 - s.2.2) + 8 * (g + 2) ≤ 3000; omega)) fun x3 σ3 y3 => ?_
      obtain ⟨m', a1, a2, a3, a4, a5, a6⟩ := y3
      rw [if_pos (show (nxt s).2.1 = none from rfl)] at a5
      have a4' : s.2.2 ≤ (E (nxt s)).1.2.2 := a4
      have a5' : m' ≤ m + 3 * ((E (nxt s)).1.2.2 - s.2.2) + 8 * (g + 1) := a5
      refine vV (u_sign (d := d) (k := 41) (by decide) rfl a1) fun σ4 ⟨h4, k4⟩ => ?_
      rw [show eK t n (nI 41) (E (nxt s)).1 = eK t n 41 (E (nxt s)).1 from rfl] at h4
      refine ⟨m', h4, (k2.tr a2).tr (k4.le (by omega)), a3, by show s.2.2 - 1 ≤ (E (nxt s)).1.2.2; omega, by show m' ≤ m + 3 * ((E (nxt s)).1.2.2 - (s.2.2 - 1)) + (if (none : Option Nat) = none then _ else _); rw [if_pos rfl]; omega, fun z => ?_⟩
      obtain ⟨b6, b7⟩ := a6 (eK_inv z).1
      have b6' : m' + 2 ≤ m + 3 * ((E (nxt s)).1.2.2 - s.2.2) := b6
      exact ⟨by show m' + 2 ≤ m + 3 * ((E (nxt s)).1.2.2 - (s.2.2 - 1)); omega, k4.at (Nat.le_refl _) b7⟩
  · have k2 : kA t n s.1 = 2 := (tk_2 (h := h)).mp y
    have ep : pPl t n E s = (nxt s, nd 0 (nvT t (tkAt t n s.1).2.1 (tkAt t n s.1).2.2.1) (aA t n s.1) 0 0 .leaf .leaf) := by
      unfold pPl
      rw [if_neg (by rw [k2]; decide), if_pos k2]
    rw [ep]
    refine vI (u_node h hm) fun x σ5 ⟨hx, h5, k5, gg, r5⟩ => ?_
    subst hx
    have D1 := ND.mk h5 k5 r5
    rw [D1.ck]
    have e85 : (σ5.2.1 103 85).toInt32 = nI (nvT t (tkAt t n s.1).2.1 (tkAt t n s.1).2.2.1) := by
      rw [h5.1.1.2.2.2.2.2.1 (kX_num.1.mp k2), lN_i]
    rw [e85]
    have D2 := D1.st (c := 176) (v := nI (nvT t (tkAt t n s.1).2.1 (tkAt t n s.1).2.2.1)) (by decide) (by decide)
    refine ⟨D1.vi, vV (u_scan (d := d + 1) D2.1 h0) fun σ6 ⟨h6, k6⟩ => ?_⟩
    have D3 := D2.to h6 k6
    exact YT.leaf h1a D3.1 D3.2.1 rfl fun _ => at_0.mpr ⟨m, rfl, Nat.le_refl _, Nat.lt_succ_self m, D3.row (c := 164) (by decide) (by decide), D3.row (c := 176) (by decide) (by decide)⟩
end YA
