/-! THE REFERENCE's parser: a node with what stands around it -/
/-- what is so as long as the nodes below m, but for k, are the same -/
def Stb (k m : Nat) (P : fkS → Prop) : Prop := ∀ σ σ' : fkS, (∀ c j, 164 ≤ c → c ≤ 176 → j < m → j ≠ k → σ'.1 c j = σ.1 c j) → P σ → P σ'
/-- node k of row f is being made; nodes below lo are as they were in σE; P is known of the others -/
def ND (t : Nat → UInt8) (n : Nat) (σ0 σE : fkS) (lo : Nat) (s : PS) (k m o : Nat) (f : Nat → Int32) (P : fkS → Prop) (σ : fkS) : Prop := PN t n σ0 s m o σ ∧ Kp lo σE σ ∧ NR k σ f ∧ lo ≤ k ∧ k < m ∧ Stb k m P ∧ P σ
/-- what comes of reading r from s on: x points to the tree -/
def YT (t : Nat → UInt8) (n : Nat) (σ0 : fkS) (o K : Nat) (s : PS) (m : Nat) (σ : fkS) (r : PS × Tr) (x : Int32) (σ' : fkS) : Prop := ∃ m', PN t n σ0 r.1 m' o σ' ∧ Kp m σ σ' ∧ m ≤ m' ∧ s.2.2 ≤ r.1.2.2 ∧ m' ≤ m + 3 * (r.1.2.2 - s.2.2) + (if s.2.1 = none then K else 0) ∧ (r.1.2.1 = none → m' + 2 ≤ m + 3 * (r.1.2.2 - s.2.2) ∧ At r.2 0 x m m' σ')
def YE (t : Nat → UInt8) (n : Nat) (σ0 : fkS) (d g o : Nat) (E : PS → PS × Tr) : Prop := ∀ (s : PS) (m : Nat) (σ : fkS), PN t n σ0 s m o σ → (s.2.1 = none → m + 3 * (401 - s.2.2) + 8 * (g + 2) ≤ 3000) → Ci d 338 [.ref 103] σ (YT t n σ0 o (8 * (g + 1)) s m σ (E s))
section NDR
variable {t : Nat → UInt8} {n d lo k m o : Nat} {σ0 σE σ : fkS} {s : PS} {f : Nat → Int32} {P : fkS → Prop}
theorem ND.mk {g : Nat → Int32} {kd wh : Int32} {σ1 : fkS} (h1 : PN t n σ0 s (m + 1) o σ1) (h2 : Kp m σE σ1) (h3 : NR m σ1 (n0 g kd wh)) : ND t n σ0 σE m s m (m + 1) o (n0 g kd wh) (fun _ => True) σ1 := ⟨h1, h2, h3, Nat.le_refl m, Nat.lt_succ_self m, fun _ _ _ _ => trivial, trivial⟩
theorem ND.st {c : Nat} {v : Int32} (h : ND t n σ0 σE lo s k m o f P σ) (a1 : 164 ≤ c) (a2 : c ≤ 176) : ND t n σ0 σE lo s k m o (up f c v) P (sI σ c k v) := by
  obtain ⟨h1, h2, h3, h0, h4, h5, h6⟩ := h
  refine ⟨h1.st a1 a2, h2.st h0, h3.st, h0, h4, h5, h5 _ _ (fun e j _ _ _ b4 => ?_) h6⟩
  by_cases q : e = c
  · subst q; exact sI_so b4
  · exact congrFun (sI_o q) j
theorem ND.to {σ' : fkS} {s' : PS} (h : ND t n σ0 σE lo s k m o f P σ) (h' : PN t n σ0 s' m o σ') (hk : Kp m σ σ') : ND t n σ0 σE lo s' k m o f P σ' := by
  obtain ⟨h1, h2, h3, h0, h4, h5, h6⟩ := h
  exact ⟨h', h2.tr (hk.le (by omega)), hk.nr h4 h3, h0, h4, h5, h5 _ _ (fun e j b1 b2 b3 _ => hk e j b1 b2 b3) h6⟩
theorem ND.vi (h : ND t n σ0 σE lo s k m o f P σ) : vp_in (nI k) 3000 := vp_in_nI (by have := h.1.2.2.2.2.2.2.1; have := h.2.2.2.2.1; omega) (by decide)
theorem ND.ck (h : ND t n σ0 σE lo s k m o f P σ) : (nI k).toNatClampNeg = k := nI_clamp (by have := h.1.2.2.2.2.2.2.1; have := h.2.2.2.2.1; omega)
/-- an E behind it -/
theorem ND.E {σ' : fkS} {K : Nat} {r : PS × Tr} {x : Int32} (h : ND t n σ0 σE lo s k m o f P σ) (y : YT t n σ0 o K s m σ r x σ') : ∃ m', ND t n σ0 σE lo r.1 k m' o f (fun q => P q ∧ (r.1.2.1 = none → At r.2 0 x m m' q)) σ' ∧ m ≤ m' ∧ s.2.2 ≤ r.1.2.2 ∧ r.1.2.2 ≤ 401 ∧ m' ≤ m + 3 * (r.1.2.2 - s.2.2) + (if s.2.1 = none then K else 0) ∧ (r.1.2.1 = none → m' + 2 ≤ m + 3 * (r.1.2.2 - s.2.2)) := by
  obtain ⟨h1, h2, h3, h0, h4, h5, h6⟩ := h
  obtain ⟨m', y1, y2, y3, y4, y5, y6⟩ := y
  refine ⟨m', ⟨y1, h2.tr (y2.le (by omega)), y2.nr h4 h3, h0, by omega, fun p q e w => ⟨h5 p q (fun c j b1 b2 b3 b4 => e c j b1 b2 (by omega) b4) w.1, fun z => At.fr (Nat.le_refl _) (Nat.le_refl _) (fun c j b1 b2 b3 b4 => e c j b1 b2 b4 (by omega)) _ _ _ (w.2 z)⟩, h5 _ _ (fun e j b1 b2 b3 _ => y2 e j b1 b2 b3) h6, fun z => (y6 z).2⟩, y3, y4, y1.2.2.2.2.2.1, y5, fun z => (y6 z).1⟩
theorem ND.row {c : Nat} (h : ND t n σ0 σE lo s k m o f P σ) (a1 : 164 ≤ c) (a2 : c ≤ 176) : σ.1 c k = f c := h.2.2.1 c a1 a2
theorem if_le {c : Prop} [Decidable c] {K : Nat} : (if c then K else 0) ≤ K := by split <;> omega
/-- how many nodes: two in a row -/
theorem nb2 {m0 m1 m2 a0 a1 a2 K : Nat} {z : Prop} [Decidable z] (b1 : a0 ≤ a1) (b2 : a1 ≤ a2) (h1 : m1 ≤ m0 + 3 * (a1 - a0) + K) (h1' : z → m1 ≤ m0 + 3 * (a1 - a0)) (h2 : m2 ≤ m1 + 3 * (a2 - a1) + (if z then K else 0)) : m2 ≤ m0 + 3 * (a2 - a0) + K := by
  by_cases c : z
  · rw [if_pos c] at h2
    have := h1' c
    omega
  · rw [if_neg c] at h2
    omega
end NDR
section YLE
variable {t : Nat → UInt8} {n d m o g : Nat} {σ0 σ : fkS} {s : PS} {E : PS → PS × Tr} {wh : Int32}
/-- let -/
theorem y_let (hw : ∀ s, (E s).1.2.1 = none → s.2.1 = none) (hE : YE t n σ0 (d + 5) g o E) (h : PN t n σ0 s m o σ) (h0 : s.2.1 = none) (hr : m + 3 * (401 - s.2.2) + 8 * (g + 3) ≤ 3000) : Ci (d + 6) 339 [.ref 103, .int wh] σ (YT t n σ0 o (8 * (g + 2)) s m σ (pLe t n E s)) := by
  unfold pLe
  simp only
  refine S_M_let (d := d + 5) (vI (u_node h (by omega)) fun x σ1 ⟨hx, h1, k1, gg, r1⟩ => ?_)
  subst hx
  have D1 := ND.mk h1 k1 r1
  refine vV (u_scan (d := d + 1) D1.1 h0) fun σ2 ⟨h2, k2⟩ => ?_
  have D2 := D1.to h2 k2
  refine vV (u_name (d := d) D2.1) fun σ3 ⟨h3, k3, e86, e87⟩ => ⟨D2.vi, D2.vi, ?_⟩
  have D3 := D2.to h3 k3
  rw [e86, D3.ck]
  generalize σ3.1 103 87 = v3 at e87 ⊢
  have D4 := (D3.st (c := 172) (v := nI (aA t n (nxt s).1)) (by decide) (by decide)).st (c := 173) (v := v3) (by decide) (by decide)
  refine vV (u_sign (d := d) (k := 61) (by decide) rfl D4.1) fun σ5 ⟨h5, k5⟩ => ⟨D4.vi, ?_⟩
  have D5 := D4.to h5 k5
  have e2 : (eK t n 61 (eK t n 1 (nxt s))).2.2 = s.2.2 := rfl
  have z0 : (eK t n 61 (eK t n 1 (nxt s))).2.1 = none → kA t n (s.1 + 1) = 1 := fun z => (eK_inv (eK_inv z).1).2.1
  have D6 := D5.st (c := 169) (v := σ5.1 103 83) (by decide) (by decide)
  rw [show eK t n (nI 61) (eK t n 1 (nxt s)) = eK t n 61 (eK t n 1 (nxt s)) from rfl] at D6
  generalize eK t n 61 (eK t n 1 (nxt s)) = s1 at e2 z0 D6 ⊢
  refine vI (hE s1 (m + 1) _ D6.1 (fun _ => by omega)) fun x7 σ7 y7 => ⟨D6.vi, ?_⟩
  obtain ⟨m1, D7, q1, q2, q3, q4, q5⟩ := D6.E y7
  have c1 := if_le (c := s1.2.1 = none) (K := 8 * (g + 1))
  have w1 := hw s1
  generalize E s1 = r1 at D7 q1 q2 q3 q4 q5 w1 ⊢
  have D8 := D7.st (c := 166) (v := x7) (by decide) (by decide)
  refine vV (u_word (d := d) (j := 2) (by decide) rfl D8.1) fun σ9 ⟨h9, k9⟩ => ⟨D8.vi, ?_⟩
  have D9 := D8.to h9 k9
  have e3 : (eK t n 6 r1.1).2.2 = r1.1.2.2 := rfl
  have z2 : (eK t n 6 r1.1).2.1 = none → r1.1.2.1 = none := fun z => (eK_inv z).1
  have D10 := D9.st (c := 170) (v := σ9.1 103 83) (by decide) (by decide)
  rw [show eK t n (nI (4 + 2)) r1.1 = eK t n 6 r1.1 from rfl] at D10
  generalize eK t n 6 r1.1 = s2 at e3 z2 D10 ⊢
  refine vI (hE s2 m1 _ D10.1 (fun z => by have := q5 (z2 z); omega)) fun x11 σ11 y11 => ⟨D10.vi, ?_⟩
  obtain ⟨m2, D11, p1, p2, p3, p4, p5⟩ := D10.E y11
  have w2 := hw s2
  generalize E s2 = r2 at D11 p1 p2 p3 p4 p5 w2 ⊢
  have D12 := D11.st (c := 167) (v := x11) (by decide) (by decide)
  obtain ⟨f1, f2, f3, f0, f4, f5, f6⟩ := id D12
  have bn := nb2 (m0 := m + 1) (m1 := m1) (m2 := m2) (a0 := s.2.2) (a1 := r1.1.2.2) (a2 := r2.1.2.2) (K := 8 * (g + 1)) (z := s2.2.1 = none) (by omega) (by omega) (by omega) (fun z => by have := q5 (z2 z); omega) (by omega)
  refine ⟨m2, f1, f2, by omega, by show s.2.2 ≤ r2.1.2.2; omega, by show m2 ≤ m + 3 * (r2.1.2.2 - s.2.2) + _; rw [if_pos h0]; omega, fun z => ?_⟩
  have a1 := z2 (w2 z)
  have a2 := q5 a1
  have a3 := p5 z
  refine ⟨by show m2 + 2 ≤ m + 3 * (r2.1.2.2 - s.2.2); omega, at_8.mpr ⟨m, rfl, Nat.le_refl _, f4, D12.row (c := 164) (by decide) (by decide), D12.row (c := 172) (by decide) (by decide), (D12.row (c := 173) (by decide) (by decide)).trans (e87 (z0 (w1 a1))), ?_, ?_⟩⟩
  · rw [show (sI σ11 167 m x11).1 166 m = x7 from D12.row (c := 166) (by decide) (by decide)]
    exact (f6.1.2 a1).wide (by omega) (by omega)
  · rw [show (sI σ11 167 m x11).1 167 m = x11 from D12.row (c := 167) (by decide) (by decide)]
    exact (f6.2 z).wide (by omega) (by omega)
end YLE
