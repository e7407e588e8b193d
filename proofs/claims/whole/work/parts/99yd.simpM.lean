/-! THE REFERENCE reads an ATOM: CALLS, pairs, NAMES -/
/-- what comes of the E of a CALL: node kc counts, the first is pointed to from field cw of node pj -/
def ARM (t : Nat → UInt8) (n : Nat) (σ0 : fkS) (o K : Nat) (s : PS) (m kc cw pj cn : Nat) (σ : fkS) (r : PS × Tr) (σ' : fkS) : Prop := ∃ m' x, PN t n σ0 r.1 m' o σ' ∧ (∀ c j, 164 ≤ c → c ≤ 176 → j < m → ¬ (c = cw ∧ j = pj) → ¬ (c = 176 ∧ j = kc) → σ'.1 c j = σ.1 c j) ∧ m ≤ m' ∧ s.2.2 ≤ r.1.2.2 ∧ m' ≤ m + 3 * (r.1.2.2 - s.2.2) + K ∧ σ'.1 176 kc = nI (cn + cnt r.2) ∧ σ'.1 cw pj = x ∧ (r.1.2.1 = none → m' ≤ m + 3 * (r.1.2.2 - s.2.2) ∧ At r.2 1 x m m' σ')
section YS
variable {t : Nat → UInt8} {n d o g : Nat} {σ0 σ : fkS} {s : PS} {E : PS → PS × Tr}
theorem eK_ok {k : Int32} (h : kA t n s.1 = k) (h0 : s.2.1 = none) : eK t n k s = nxt s := by
  unfold eK nxt
  rw [show exK t n (decide (kX t (tkAt t n s.1) = k)) s.1 s.2.1 = (s.1 + 1, none) from if_pos ⟨h0, decide_eq_true h⟩]
theorem eK_ft {k : Int32} (h : ¬ kA t n s.1 = k) (h0 : s.2.1 = none) : eK t n k s = ft t n s := by
  unfold eK ft
  rw [show exK t n (decide (kX t (tkAt t n s.1) = k)) s.1 s.2.1 = (s.1, some (s.2.1.getD (tkAt t n s.1).2.1)) from if_neg fun q => h (of_decide_eq_true q.2), h0]
  rfl
theorem w_args {a z : Nat} {Q : Option Value → fkS → Prop} (hw : ∀ s, (E s).1.2.1 = none → s.2.1 = none) (hE : YE t n σ0 (d + 4) g o E) {kc : Nat} : ∀ (f kk cn cw pj m : Nat) (s : PS) (σ : fkS) (v4 : Int32), ¬ v4 = 0 → PN t n σ0 s m o σ → s.2.1 = none → 401 ≤ f + s.2.2 → m + 3 * (401 - s.2.2) + 8 * (g + 2) + 1 ≤ 3000 → kc < m → pj < m → (pj = kc ∧ cw = 166 ∨ pj ≠ kc ∧ cw = 167) → σ.1 176 kc = nI cn → cn ≤ s.2.2 →
    (∀ σ', ARM t n σ0 o (8 * (g + 1) + 1) s m kc cw pj cn σ (pAr t n E a z f kk (nxt s)) σ' → Cv (d + 4) 335 [.ref 103, .int (41 : Int32)] σ' (fun σ1 => Q (some (.int (nI kc))) σ1)) →
    Wq 348 (d + 5) 286 [some (.ref 103), none, some (.int (nI kc)), some (.int (nI pj)), some (.int v4), none] [] σ Q := by
  intro f
  induction f with
  | zero =>
    intro kk cn cw pj m s σ v4 hv4 h h0 hf
    have := h.2.2.2.2.1 h0
    omega
  | succ f ih =>
    intro kk cn cw pj m s σ v4 hv4 h h0 hf hr hkc hpj hc h176 hcn hQ
    have m3 := h.2.2.2.2.2.2.1
    have a4 := h.2.2.2.2.1 h0
    have ckc : (nI kc).toNatClampNeg = kc := nI_clamp (by omega)
    have cpj : (nI pj).toNatClampNeg = pj := nI_clamp (by omega)
    have vkc : vp_in (nI kc) 3000 := vp_in_nI (by omega) (by decide)
    have vpj : vp_in (nI pj) 3000 := vp_in_nI (by omega) (by decide)
    refine S_M_simple_286 (d := d + 4) ⟨fun y => absurd y hv4, fun _ => ⟨fun y => absurd h0 (h.lt.1.mp y), fun _ => ?_⟩⟩
    refine vV (u_scan (d := d) h h0) fun σ1 ⟨h1, k1⟩ => ?_
    rw [h1.at]
    refine vI (u_node h1 (by omega)) fun x σ2 ⟨hx, h2, k2, gg, r2⟩ => ?_
    subst hx
    have D2 : ND t n σ0 σ m (nxt s) m (m + 1) o (n0 gg 12 (nI (aA t n (nxt s).1))) (fun _ => True) σ2 := ⟨h2, k1.tr k2, r2, Nat.le_refl m, Nat.lt_succ_self m, fun _ _ _ _ => trivial, trivial⟩
    refine ⟨D2.vi, ?_⟩
    rw [D2.1.at, D2.ck]
    have D3 := D2.st (c := 169) (v := nI (aA t n (nxt s).1)) (by decide) (by decide)
    have hE1 := hE (nxt s) (m + 1) _ D3.1 (fun _ => by show m + 1 + 3 * (401 - s.2.2) + 8 * (g + 2) ≤ 3000; omega)
    refine vI hE1 fun x7 σ4 y4 => ⟨D3.vi, ?_⟩
    obtain ⟨m1, D4, q1, q2, q3, q4, q5⟩ := D3.E y4
    rw [if_pos (show (nxt s).2.1 = none from rfl)] at q4
    have q2' : s.2.2 ≤ (E (nxt s)).1.2.2 := q2
    have q4' : m1 ≤ m + 1 + 3 * ((E (nxt s)).1.2.2 - s.2.2) + 8 * (g + 1) := q4
    have q5' : (E (nxt s)).1.2.1 = none → m1 + 2 ≤ m + 1 + 3 * ((E (nxt s)).1.2.2 - s.2.2) := q5
    rw [pAr] at hQ
    generalize er : E (nxt s) = r at *
    have D5 := D4.st (c := 166) (v := x7) (by decide) (by decide)
    have P5 : r.1.2.1 = none → At r.2 0 x7 (m + 1) m1 (sI σ4 166 m x7) := D5.2.2.2.2.2.2.2
    -- the link
    have lk : ∀ {A : fkS → Prop}, A (sI (sI σ4 166 m x7) cw pj (nI m)) → ((¬ nI pj = nI kc → vp_in (nI pj) 3000 ∧ A (sI (sI σ4 166 m x7) 167 (nI pj).toNatClampNeg (nI m))) ∧ (nI pj = nI kc → vp_in (nI kc) 3000 ∧ A (sI (sI σ4 166 m x7) 166 (nI kc).toNatClampNeg (nI m)))) := by
      intro A hA
      rw [cpj, ckc, nI_eq (by omega) (by omega)]
      rcases hc with ⟨rfl, rfl⟩ | ⟨c1, rfl⟩
      · exact ⟨fun y => absurd rfl y, fun _ => ⟨vkc, hA⟩⟩
      · exact ⟨fun _ => ⟨vpj, hA⟩, fun y => absurd y c1⟩
    have cwr : 164 ≤ cw ∧ cw ≤ 176 ∧ cw ≠ 176 ∧ (cw = 166 ∨ cw = 167) := by omega
    refine lk (A := fun σ' => Wq 348 (d + 5) 360 [some (.ref 103), none, some (.int (nI kc)), none, none, some (.int (nI m))] [] σ' Q) ?_
    refine S_M_simple_360 (d := d + 4) ⟨vkc, vkc, ?_⟩
    rw [ckc]
    have e176 : (sI (sI σ4 166 m x7) cw pj (nI m)).1 176 kc = nI cn := by
      rw [congrFun (sI_o (by omega)) kc, congrFun (sI_o (by decide)) kc]
      exact (y4.choose_spec.2.1 176 kc (by decide) (by decide) (by omega)).trans (((congrFun (sI_o (by decide)) kc).trans ((k1.tr k2) 176 kc (by decide) (by decide) hkc)).trans h176)
    rw [e176, (nI_succ cn).symm]
    -- what stands now
    have hN : PN t n σ0 r.1 m1 o (sI (sI (sI σ4 166 m x7) cw pj (nI m)) 176 kc (nI (cn + 1))) := (D5.1.st cwr.1 cwr.2.1).st (by decide) (by decide)
    have hR : NR m (sI (sI (sI σ4 166 m x7) cw pj (nI m)) 176 kc (nI (cn + 1))) _ := (D5.2.2.1.so (j := pj) (c := cw) (v := nI m) (by omega)).so (j := kc) (c := 176) (v := nI (cn + 1)) (by omega)
    have hA : r.1.2.1 = none → At r.2 0 x7 (m + 1) m1 (sI (sI (sI σ4 166 m x7) cw pj (nI m)) 176 kc (nI (cn + 1))) := fun z => ((P5 z).so (by omega)).so (by omega)
    have hK : ∀ c j, 164 ≤ c → c ≤ 176 → j < m → ¬ (c = cw ∧ j = pj) → ¬ (c = 176 ∧ j = kc) → (sI (sI (sI σ4 166 m x7) cw pj (nI m)) 176 kc (nI (cn + 1))).1 c j = σ.1 c j := by
      intro c j b1 b2 b3 b4 b5
      refine Eq.trans ?_ (D5.2.1 c j b1 b2 b3)
      have s1 : (sI (sI (sI σ4 166 m x7) cw pj (nI m)) 176 kc (nI (cn + 1))).1 c j = (sI (sI σ4 166 m x7) cw pj (nI m)).1 c j := by
        by_cases q : c = 176
        · subst q; exact sI_so (fun e => b5 ⟨rfl, e⟩)
        · exact congrFun (sI_o q) j
      have s2 : (sI (sI σ4 166 m x7) cw pj (nI m)).1 c j = (sI σ4 166 m x7).1 c j := by
        by_cases q : c = cw
        · subst q; exact sI_so (fun e => b4 ⟨rfl, e⟩)
        · exact congrFun (sI_o q) j
      exact s1.trans s2
    have hC : (sI (sI (sI σ4 166 m x7) cw pj (nI m)) 176 kc (nI (cn + 1))).1 176 kc = nI (cn + 1) := sI_ss
    have hP : (sI (sI (sI σ4 166 m x7) cw pj (nI m)) 176 kc (nI (cn + 1))).1 cw pj = nI m := (congrFun (sI_o cwr.2.2.1) pj).trans sI_ss
    generalize sI (sI (sI σ4 166 m x7) cw pj (nI m)) 176 kc (nI (cn + 1)) = σ8 at hN hR hA hK hC hP ⊢
    have n169 : σ8.1 169 m = nI (aA t n (nxt s).1) := hR 169 (by decide) (by decide)
    have n166 : σ8.1 166 m = x7 := hR 166 (by decide) (by decide)
    have n167 : σ8.1 167 m = -1 := hR 167 (by decide) (by decide)
    refine vI (u_isSg (k := 44) (by decide) rfl hN) fun x9 σ9 ⟨e9, i9⟩ => ?_
    subst e9
    by_cases c : r.1.2.1 = none ∧ kA t n r.1.1 = 44
    · rw [if_pos c] at hQ
      have x9e : ¬ x9 = 0 := fun y => i9.mp y c
      have b5 := q5' c.1
      refine ih (kk + 1) (cn + 1) 167 m m1 r.1 σ9 x9 x9e hN c.1 (by omega) (by omega) (by omega) (by omega) (Or.inr ⟨by omega, rfl⟩) hC (by omega) fun σ' A => hQ σ' ?_
      obtain ⟨m', x', a1, a2, a3, a4', a5, a6, a7, a8⟩ := A
      refine ⟨m', nI m, a1, fun c j b1 b2 b3 b4 b5 => (a2 c j b1 b2 (by omega) (by omega) b5).trans (hK c j b1 b2 b3 b4 b5), by omega, ?_, ?_, ?_, ?_, fun zz => ?_⟩
      · show s.2.2 ≤ (pAr t n E a z f (kk + 1) (nxt r.1)).1.2.2
        omega
      · show m' ≤ m + 3 * ((pAr t n E a z f (kk + 1) (nxt r.1)).1.2.2 - s.2.2) + _
        omega
      · rw [a6]
        show nI (cn + 1 + cnt _) = nI (cn + (1 + cnt _))
        congr 1
        omega
      · exact (a2 cw pj cwr.1 cwr.2.1 (by omega) (by omega) (by omega)).trans hP
      · obtain ⟨b6, b7⟩ := a8 zz
        refine ⟨by show m' ≤ m + 3 * ((pAr t n E a z f (kk + 1) (nxt r.1)).1.2.2 - s.2.2); omega, at_21.mpr ⟨m, rfl, Nat.le_refl _, by omega, (a2 169 m (by decide) (by decide) (by omega) (by omega) (by omega)).trans n169, ?_, ?_⟩⟩
        · rw [(a2 166 m (by decide) (by decide) (by omega) (by omega) (by omega)).trans n166]
          refine At.fr (by omega) (by omega) (fun c j b1 b2 b3 b4 => a2 c j b1 b2 b4 (by omega) (by omega)) _ _ _ (hA c.1)
        · rw [a7]
          exact b7.wide (by omega) (Nat.le_refl _)
    · rw [if_neg c] at hQ
      have x9e : x9 = 0 := i9.mpr c
      subst x9e
      refine S_M_simple_286 (d := d + 4) ⟨fun _ => hQ σ9 ⟨m1, nI m, hN, hK, by omega, by show s.2.2 ≤ r.1.2.2; omega, by show m1 ≤ m + 3 * (r.1.2.2 - s.2.2) + _; omega, hC, hP, fun z => ?_⟩, fun y => absurd rfl y⟩
      have b5 := q5' z
      refine ⟨by show m1 ≤ m + 3 * (r.1.2.2 - s.2.2); omega, at_21.mpr ⟨m, rfl, Nat.le_refl _, by omega, n169, ?_, ?_⟩⟩
      · rw [n166]
        exact (hA z).wide (by omega) (Nat.le_refl _)
      · exact ⟨rfl, n167⟩
end YS
