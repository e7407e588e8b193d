/-! THE CLASS runs: one step -/
section ST0
variable {σ0 σ : fkS} {A : List Int32} {F : List (Nat × Nat)} {s : rwS} {p d : Nat}
theorem rPr_nI {v : Int32} {s : rwS} {q : Int32 × Int32} (h : rPr v s = some q) (hl : s.1.length ≤ 500) : ∃ i, v = nI (i + 1) ∧ i < s.1.length ∧ s.1[i]? = some q := by
  obtain ⟨i, hi, hv⟩ := rPr_in h
  have il := (List.getElem?_eq_some_iff.mp hi).1
  refine ⟨i, Int32.toInt_inj.1 ?_, il, hi⟩
  rw [nI_toInt (by omega)]
  unfold Int32.toNatClampNeg at hv
  omega
theorem rPr_some {v : Int32} {s : rwS} (h0 : ¬ v ≤ 0) (h1 : ¬ nI s.1.length < v) (hl : s.1.length ≤ 500) : ∃ q, rPr v s = some q := by
  have a1 := Int32.lt_iff_toInt_lt.mp (Int32.not_le.mp h0)
  have a2 := Int32.le_iff_toInt_le.mp (Int32.not_lt.mp h1)
  rw [nI_toInt (by omega)] at a2
  have e0 : (0 : Int32).toInt = 0 := rfl
  have a3 : v.toNatClampNeg - 1 < s.1.length := by
    unfold Int32.toNatClampNeg
    omega
  refine ⟨s.1[v.toNatClampNeg - 1], ?_⟩
  unfold rPr
  rw [if_pos (Int32.not_le.mp h0), List.getElem?_eq_getElem a3]
/-- no pair: on -/
theorem rx_nil {v : Int32} {q : Nat} (h : XM σ0 (v :: A) F s p σ) (hv : rPr v s = none) : Dv (d + 1) 234 [.ref 98, .int (10 : Int32), .int (nI q)] σ (fun σ' => XM σ0 A F s p σ') := by
  refine S_Runner_goOn ⟨fun y => absurd y (by decide), fun y => absurd y (by decide), fun y => absurd y (by decide), fun _ => ?_, fun y => absurd y (by decide), fun y => absurd y (by decide), fun y => absurd y (by decide), trivial⟩
  refine yI rfl (rx_pop h) fun x σ1 ⟨hx, h1⟩ w1 => ?_
  subst hx
  rw [w1, h1.2.2.1.1]
  refine ⟨fun _ => ⟨h.re h1, h1⟩, fun y => ⟨fun _ => ⟨h.re h1, h1⟩, fun y2 => ?_⟩⟩
  obtain ⟨q2, hq2⟩ := rPr_some y y2 h1.2.2.1.2.1
  rw [hv] at hq2
  cases hq2
/-- a pair: its parts, elsewhere -/
theorem rx_pair {v : Int32} {q : Nat} {z : Int32 × Int32} (h : XM σ0 (v :: A) F s p σ) (hv : rPr v s = some z) (hl : A.length + 2 ≤ 12000) : Dv (d + 1) 234 [.ref 98, .int (10 : Int32), .int (nI q)] σ (fun σ' => XM σ0 (z.2 :: z.1 :: A) F s q σ') := by
  refine S_Runner_goOn ⟨fun y => absurd y (by decide), fun y => absurd y (by decide), fun y => absurd y (by decide), fun _ => ?_, fun y => absurd y (by decide), fun y => absurd y (by decide), fun y => absurd y (by decide), trivial⟩
  refine yI rfl (rx_pop h) fun x σ1 ⟨hx, h1⟩ w1 => ?_
  subst hx
  obtain ⟨i, rfl, il, hi⟩ := rPr_nI hv h1.2.2.1.2.1
  have l5 := h1.2.2.1.2.1
  have ck : (nI (i + 1)).toNatClampNeg = i + 1 := nI_clamp (by omega)
  rw [w1, h1.2.2.1.1, ck, (h1.2.2.1.2.2.1 i z hi).1]
  refine ⟨fun y => absurd y (nI_nle (by omega) (by omega)), fun _ => ⟨fun y => absurd y (nI_nlt (a := s.1.length) (b := i + 1) (by omega) (by omega)), fun _ => ⟨vp_in_nI (by omega) (by decide), ?_⟩⟩⟩
  refine yV (h.re h1) (rx_push h1 (by omega)) fun σ2 h2 w2 => ⟨vp_in_nI (by omega) (by decide), ?_⟩
  rw [w2, (h2.2.2.1.2.2.1 i z hi).2]
  refine yV (h.re h2) (rx_push h2 (by rw [List.length_cons]; omega)) fun σ3 h3 w3 => ?_
  rw [w3]
  exact ⟨h.re (h3.at2 (q := q)), h3.at2⟩
/-- the CODE of the kept PROGRAM -/
def XC (σ0 : fkS) (C : List cdE) : Prop := σ0.2.2 98 0 = 63 ∧ σ0.1 62 9 = nI C.length ∧ C.length ≤ 3000 ∧ ∀ i e, C[i]? = some e → σ0.1 71 i = e.1 ∧ σ0.2.1 72 i = e.2.1
/-- the RUN goes on after so many steps -/
def LX (d v : Nat) (Q : Option Value → fkS → Prop) (σ : fkS) : Prop := Wq 224 (d + 4) 83 [some (.ref 98), none, none, none, some (.int (nI v))] [] σ Q
theorem lx_step {C : List cdE} {e : cdE} {b rt v : Nat} {Q : Option Value → fkS → Prop} (hC : XC σ0 C) (he : C[p]? = some e) (h : XM σ0 A ((b, rt) :: F) s p σ) (hv : v < 50000000) (go : ∀ σ', XM σ0 A ((b, rt) :: F) s (p + 1) σ' → Dv (d + 3) 227 [.ref 98, .int e.1, .long e.2.1] σ' (fun σ9 => LX d (v + 1) Q σ9)) : LX d v Q σ := by
  obtain ⟨c0, c1, c2, c3⟩ := hC
  have pl := (List.getElem?_eq_some_iff.mp he).1
  obtain ⟨e1, e2⟩ := c3 p e he
  have hf := h.2.2.2.2.2.2
  have g1 : σ.1 71 p = e.1 := (hf 71 p rfl).1.trans e1
  have g2 : σ.2.1 72 p = e.2.1 := (hf 72 p rfl).2.1.trans e2
  have g9 : σ.1 62 9 = nI C.length := (hf 62 9 rfl).1.trans c1
  have r0 : σ.2.2 98 0 = 63 := by rw [h.2.2.2.2.2.1]; exact c0
  have h12 := h.2.2.2.2.1
  have h6 : σ.1 98 6 = nI (F.length + 1) := h.2.1.1
  have l6 : F.length + 1 ≤ 60 := h.2.1.2.1
  unfold LX
  refine S_Runner_start_83 (d := d + 3) r0 ⟨fun y => absurd y (nI_ge (a := v) (b := 50000000) hv (by decide)), fun _ => ⟨fun y => absurd (show nI (F.length + 1) ≤ 0 by rw [← h6]; exact y) (nI_nle (by omega) (by omega)), fun _ => ⟨fun y => absurd h12 y, fun _ => ⟨by decide, ?_⟩⟩⟩⟩
  rw [g9, h.2.2.2.1, (nI_succ p).symm, nI_pred, nI_clamp (n := p) (by omega), g1, g2, (nI_succ v).symm]
  refine ⟨fun y => absurd y (nI_ge pl (by omega)), fun _ => ⟨by decide, vp_in_nI (by omega) (by decide), by decide, vp_in_nI (by omega) (by decide), ?_⟩⟩
  refine yV (σE := σ) rfl (go _ h.at2) fun σ9 h9 w9 => ?_
  rw [w9]
  exact h9
/-- the RUN ends with an error -/
theorem lx_err {x v : Nat} {Q : Option Value → fkS → Prop} (hr : σ0.2.2 98 0 = 63) (h : XEr σ0 s x σ) (hx : 1 ≤ x) (hx4 : x ≤ 4) (q : Q none (sI σ 98 13 (0 : Int32))) : LX d v Q σ := by
  have r0 : σ.2.2 98 0 = 63 := by rw [h.2.2.1]; exact hr
  have ne : ¬ σ.1 98 12 = 0 := by
    rw [h.2.1]
    exact nI_ne0 (by omega) (by omega)
  unfold LX
  exact S_Runner_start_83 (d := d + 3) r0 ⟨fun _ => ⟨fun _ => q, fun y => absurd y ne⟩, fun _ => ⟨fun _ => ⟨fun _ => q, fun y => absurd y ne⟩, fun _ => ⟨fun _ => ⟨fun _ => q, fun y => absurd y ne⟩, fun y => absurd y ne⟩⟩⟩
theorem s2_num {a : Nat} (h : XM σ0 A F s p σ) (hl : A.length < 12000) : Dv (d + 3) 227 [.ref 98, .int (0 : Int32), .long (lN a)] σ (fun σ' => XM σ0 (nI a :: A) F s p σ') := by
  refine S_Runner_step (d := d + 2) ⟨fun _ => ⟨fun y => absurd y (by decide), fun _ => ?_, fun y => absurd y (by decide), fun y => absurd y (by decide), fun y => absurd y (by decide), fun y => absurd y (by decide), fun y => absurd y (by decide), fun y => absurd y (by decide), fun y => absurd y (by decide), fun y => absurd y (by decide), fun y => absurd y (by decide), fun y => absurd y (by decide), fun y => absurd y (by decide), fun y => absurd y (by decide), fun y => absurd y (by decide), fun y => absurd y (by decide), fun y => absurd y (by decide), fun y => absurd y (by decide), fun y => absurd y (by decide), trivial⟩, fun y => absurd (by decide) y⟩
  rw [lN_i]
  refine yV rfl (rx_push h hl) fun σ5 h5 w5 => ?_
  show (sW σ5 σ).2.2 = σ.2.2 ∧ _
  rw [w5]
  exact ⟨h.re h5, h5⟩
theorem s2_act {a : Nat} (h : XM σ0 A F s p σ) (hl : A.length < 12000) : Dv (d + 3) 227 [.ref 98, .int (3 : Int32), .long (lN a)] σ (fun σ' => XM σ0 (nI a :: A) F s p σ') := by
  refine S_Runner_step (d := d + 2) ⟨fun _ => ⟨fun y => absurd y (by decide), fun y => absurd y (by decide), fun y => absurd y (by decide), fun y => absurd y (by decide), fun _ => ?_, fun y => absurd y (by decide), fun y => absurd y (by decide), fun y => absurd y (by decide), fun y => absurd y (by decide), fun y => absurd y (by decide), fun y => absurd y (by decide), fun y => absurd y (by decide), fun y => absurd y (by decide), fun y => absurd y (by decide), fun y => absurd y (by decide), fun y => absurd y (by decide), fun y => absurd y (by decide), fun y => absurd y (by decide), fun y => absurd y (by decide), trivial⟩, fun y => absurd (by decide) y⟩
  rw [lN_i]
  refine yV rfl (rx_push h hl) fun σ5 h5 w5 => ?_
  show (sW σ5 σ).2.2 = σ.2.2 ∧ _
  rw [w5]
  exact ⟨h.re h5, h5⟩
theorem s2_nil {x : Int64} (h : XM σ0 A F s p σ) (hl : A.length < 12000) : Dv (d + 3) 227 [.ref 98, .int (4 : Int32), .long x] σ (fun σ' => XM σ0 ((0 : Int32) :: A) F s p σ') := by
  refine S_Runner_step (d := d + 2) ⟨fun _ => ⟨fun y => absurd y (by decide), fun y => absurd y (by decide), fun y => absurd y (by decide), fun y => absurd y (by decide), fun y => absurd y (by decide), fun _ => ?_, fun y => absurd y (by decide), fun y => absurd y (by decide), fun y => absurd y (by decide), fun y => absurd y (by decide), fun y => absurd y (by decide), fun y => absurd y (by decide), fun y => absurd y (by decide), fun y => absurd y (by decide), fun y => absurd y (by decide), fun y => absurd y (by decide), fun y => absurd y (by decide), fun y => absurd y (by decide), fun y => absurd y (by decide), trivial⟩, fun y => absurd (by decide) y⟩
  refine yV rfl (rx_push h hl) fun σ5 h5 w5 => ?_
  show (sW σ5 σ).2.2 = σ.2.2 ∧ _
  rw [w5]
  exact ⟨h.re h5, h5⟩
theorem s2_name {i b rt : Nat} {v : Int32} (h : XM σ0 A ((b, rt) :: F) s p σ) (hl : A.length < 12000) (hi : A.reverse[b + i]? = some v) : Dv (d + 3) 227 [.ref 98, .int (1 : Int32), .long (lN i)] σ (fun σ' => XM σ0 (v :: A) ((b, rt) :: F) s p σ') := by
  refine S_Runner_step (d := d + 2) ⟨fun _ => ⟨fun y => absurd y (by decide), fun y => absurd y (by decide), fun _ => ?_, fun y => absurd y (by decide), fun y => absurd y (by decide), fun y => absurd y (by decide), fun y => absurd y (by decide), fun y => absurd y (by decide), fun y => absurd y (by decide), fun y => absurd y (by decide), fun y => absurd y (by decide), fun y => absurd y (by decide), fun y => absurd y (by decide), fun y => absurd y (by decide), fun y => absurd y (by decide), fun y => absurd y (by decide), fun y => absurd y (by decide), fun y => absurd y (by decide), fun y => absurd y (by decide), trivial⟩, fun y => absurd (by decide) y⟩
  have h7 : σ.1 98 7 = nI b := h.2.1.2.2.2.1 (by simp)
  rw [lN_i, h7, nI_add]
  refine yI rfl (rx_std h hi) fun x σ1 ⟨hx, e1⟩ w1 => ?_
  subst hx
  subst e1
  rw [w1]
  refine yV rfl (rx_push h hl) fun σ5 h5 w5 => ?_
  show (sW σ5 σ1).2.2 = σ1.2.2 ∧ _
  rw [w5]
  exact ⟨h.re h5, h5⟩
theorem s2_cons {x0 : Int64} {x y : Int32} (h : XM σ0 (y :: x :: A) F s p σ) : Dv (d + 3) 227 [.ref 98, .int (5 : Int32), .long x0] σ (fun σ' => (s.1.length < 500 ∧ XM σ0 (nI (s.1.length + 1) :: A) F (s.1 ++ [(x, y)], s.2) p σ') ∨ (¬ s.1.length < 500 ∧ XEr σ0 s 2 σ')) := by
  refine S_Runner_step (d := d + 2) ⟨fun _ => ⟨fun y => absurd y (by decide), fun y => absurd y (by decide), fun y => absurd y (by decide), fun y => absurd y (by decide), fun y => absurd y (by decide), fun y => absurd y (by decide), fun _ => ?_, fun y => absurd y (by decide), fun y => absurd y (by decide), fun y => absurd y (by decide), fun y => absurd y (by decide), fun y => absurd y (by decide), fun y => absurd y (by decide), fun y => absurd y (by decide), fun y => absurd y (by decide), fun y => absurd y (by decide), fun y => absurd y (by decide), fun y => absurd y (by decide), fun y => absurd y (by decide), trivial⟩, fun y => absurd (by decide) y⟩
  refine yV rfl (rx_cons (d := d + 1) h) fun σ5 h5 w5 => ?_
  show (sW σ5 σ).2.2 = σ.2.2 ∧ _
  exact ⟨rfl, by rw [w5]; exact h5⟩
theorem s2_neg {x0 : Int64} {v : Int32} (h : XM σ0 (v :: A) F s p σ) : Dv (d + 3) 227 [.ref 98, .int (7 : Int32), .long x0] σ (fun σ' => XM σ0 (-v :: A) F s p σ') := by
  refine S_Runner_step (d := d + 2) ⟨fun _ => ⟨fun y => absurd y (by decide), fun y => absurd y (by decide), fun y => absurd y (by decide), fun y => absurd y (by decide), fun y => absurd y (by decide), fun y => absurd y (by decide), fun y => absurd y (by decide), fun y => absurd y (by decide), fun _ => ?_, fun y => absurd y (by decide), fun y => absurd y (by decide), fun y => absurd y (by decide), fun y => absurd y (by decide), fun y => absurd y (by decide), fun y => absurd y (by decide), fun y => absurd y (by decide), fun y => absurd y (by decide), fun y => absurd y (by decide), fun y => absurd y (by decide), trivial⟩, fun y => absurd (by decide) y⟩
  have hA : A.length + 1 ≤ 12000 := h.1.2.1
  refine yI rfl (rx_pop h) fun x σ1 ⟨hx, h1⟩ w1 => ?_
  subst hx
  rw [w1]
  refine yV (h.re h1) (rx_push h1 (by omega)) fun σ5 h5 w5 => ?_
  show (sW σ5 σ).2.2 = σ.2.2 ∧ _
  rw [w5]
  exact ⟨h.re h5, h5⟩
theorem s2_if {v : Int32} {q : Nat} (h : XM σ0 (v :: A) F s p σ) : Dv (d + 3) 227 [.ref 98, .int (8 : Int32), .long (lN q)] σ (fun σ' => XM σ0 A F s (if v = 0 then q else p) σ') := by
  refine S_Runner_step (d := d + 2) ⟨fun _ => ⟨fun y => absurd y (by decide), fun y => absurd y (by decide), fun y => absurd y (by decide), fun y => absurd y (by decide), fun y => absurd y (by decide), fun y => absurd y (by decide), fun y => absurd y (by decide), fun y => absurd y (by decide), fun y => absurd y (by decide), fun _ => ?_, fun y => absurd y (by decide), fun y => absurd y (by decide), fun y => absurd y (by decide), fun y => absurd y (by decide), fun y => absurd y (by decide), fun y => absurd y (by decide), fun y => absurd y (by decide), fun y => absurd y (by decide), fun y => absurd y (by decide), trivial⟩, fun y => absurd (by decide) y⟩
  rw [lN_i]
  refine yV rfl (rx_if (d := d + 1) (q := q) h) fun σ5 h5 w5 => ?_
  show (sW σ5 σ).2.2 = σ.2.2 ∧ _
  rw [w5]
  exact ⟨h.re h5, h5⟩
theorem s2_go {q : Nat} (h : XM σ0 A F s p σ) : Dv (d + 3) 227 [.ref 98, .int (9 : Int32), .long (lN q)] σ (fun σ' => XM σ0 A F s q σ') := by
  refine S_Runner_step (d := d + 2) ⟨fun _ => ⟨fun y => absurd y (by decide), fun y => absurd y (by decide), fun y => absurd y (by decide), fun y => absurd y (by decide), fun y => absurd y (by decide), fun y => absurd y (by decide), fun y => absurd y (by decide), fun y => absurd y (by decide), fun y => absurd y (by decide), fun y => absurd y (by decide), fun _ => ?_, fun y => absurd y (by decide), fun y => absurd y (by decide), fun y => absurd y (by decide), fun y => absurd y (by decide), fun y => absurd y (by decide), fun y => absurd y (by decide), fun y => absurd y (by decide), fun y => absurd y (by decide), trivial⟩, fun y => absurd (by decide) y⟩
  rw [lN_i]
  refine yV rfl (rx_go (d := d + 1) (q := q) h) fun σ5 h5 w5 => ?_
  show (sW σ5 σ).2.2 = σ.2.2 ∧ _
  rw [w5]
  exact ⟨h.re h5, h5⟩
theorem s2_mno {v : Int32} {q : Nat} (h : XM σ0 (v :: A) F s p σ) (hv : rPr v s = none) : Dv (d + 3) 227 [.ref 98, .int (10 : Int32), .long (lN q)] σ (fun σ' => XM σ0 A F s p σ') := by
  refine S_Runner_step (d := d + 2) ⟨fun _ => ⟨fun y => absurd y (by decide), fun y => absurd y (by decide), fun y => absurd y (by decide), fun y => absurd y (by decide), fun y => absurd y (by decide), fun y => absurd y (by decide), fun y => absurd y (by decide), fun y => absurd y (by decide), fun y => absurd y (by decide), fun y => absurd y (by decide), fun y => absurd y (by decide), fun _ => ?_, fun y => absurd y (by decide), fun y => absurd y (by decide), fun y => absurd y (by decide), fun y => absurd y (by decide), fun y => absurd y (by decide), fun y => absurd y (by decide), fun y => absurd y (by decide), trivial⟩, fun y => absurd (by decide) y⟩
  rw [lN_i]
  refine yV rfl (rx_nil (d := d + 1) (q := q) h hv) fun σ5 h5 w5 => ?_
  show (sW σ5 σ).2.2 = σ.2.2 ∧ _
  rw [w5]
  exact ⟨h.re h5, h5⟩
theorem s2_mpr {v : Int32} {q : Nat} {z : Int32 × Int32} (h : XM σ0 (v :: A) F s p σ) (hv : rPr v s = some z) (hl : A.length + 2 ≤ 12000) : Dv (d + 3) 227 [.ref 98, .int (10 : Int32), .long (lN q)] σ (fun σ' => XM σ0 (z.2 :: z.1 :: A) F s q σ') := by
  refine S_Runner_step (d := d + 2) ⟨fun _ => ⟨fun y => absurd y (by decide), fun y => absurd y (by decide), fun y => absurd y (by decide), fun y => absurd y (by decide), fun y => absurd y (by decide), fun y => absurd y (by decide), fun y => absurd y (by decide), fun y => absurd y (by decide), fun y => absurd y (by decide), fun y => absurd y (by decide), fun y => absurd y (by decide), fun _ => ?_, fun y => absurd y (by decide), fun y => absurd y (by decide), fun y => absurd y (by decide), fun y => absurd y (by decide), fun y => absurd y (by decide), fun y => absurd y (by decide), fun y => absurd y (by decide), trivial⟩, fun y => absurd (by decide) y⟩
  rw [lN_i]
  refine yV rfl (rx_pair (d := d + 1) (q := q) h hv hl) fun σ5 h5 w5 => ?_
  show (sW σ5 σ).2.2 = σ.2.2 ∧ _
  rw [w5]
  exact ⟨h.re h5, h5⟩
theorem s2_n11 {x : Int64} (h : XM σ0 A F s p σ) : Dv (d + 3) 227 [.ref 98, .int (11 : Int32), .long x] σ (fun σ' => XM σ0 A F s p σ') := by
  refine S_Runner_step (d := d + 2) ⟨fun _ => ⟨fun y => absurd y (by decide), fun y => absurd y (by decide), fun y => absurd y (by decide), fun y => absurd y (by decide), fun y => absurd y (by decide), fun y => absurd y (by decide), fun y => absurd y (by decide), fun y => absurd y (by decide), fun y => absurd y (by decide), fun y => absurd y (by decide), fun y => absurd y (by decide), fun y => absurd y (by decide), fun _ => ?_, fun y => absurd y (by decide), fun y => absurd y (by decide), fun y => absurd y (by decide), fun y => absurd y (by decide), fun y => absurd y (by decide), fun y => absurd y (by decide), trivial⟩, fun y => absurd (by decide) y⟩
  refine S_Runner_goOn (d := d + 1) ⟨fun y => absurd y (by decide), fun y => absurd y (by decide), fun y => absurd y (by decide), fun y => absurd y (by decide), fun _ => ?_, fun y => absurd y (by decide), fun y => absurd y (by decide), trivial⟩
  exact ⟨rfl, rfl, h⟩
theorem s2_n12 {x : Int64} (h : XM σ0 A F s p σ) : Dv (d + 3) 227 [.ref 98, .int (12 : Int32), .long x] σ (fun σ' => XM σ0 A F s p σ') := by
  refine S_Runner_step (d := d + 2) ⟨fun _ => ⟨fun y => absurd y (by decide), fun y => absurd y (by decide), fun y => absurd y (by decide), fun y => absurd y (by decide), fun y => absurd y (by decide), fun y => absurd y (by decide), fun y => absurd y (by decide), fun y => absurd y (by decide), fun y => absurd y (by decide), fun y => absurd y (by decide), fun y => absurd y (by decide), fun y => absurd y (by decide), fun y => absurd y (by decide), fun _ => ?_, fun y => absurd y (by decide), fun y => absurd y (by decide), fun y => absurd y (by decide), fun y => absurd y (by decide), fun y => absurd y (by decide), trivial⟩, fun y => absurd (by decide) y⟩
  refine S_Runner_goOn (d := d + 1) ⟨fun y => absurd y (by decide), fun y => absurd y (by decide), fun y => absurd y (by decide), fun y => absurd y (by decide), fun y => absurd y (by decide), fun _ => ?_, fun y => absurd y (by decide), trivial⟩
  exact ⟨rfl, rfl, h⟩
theorem s2_n14 {x : Int64} (h : XM σ0 A F s p σ) : Dv (d + 3) 227 [.ref 98, .int (14 : Int32), .long x] σ (fun σ' => XM σ0 A F s p σ') := by
  refine S_Runner_step (d := d + 2) ⟨fun _ => ⟨fun y => absurd y (by decide), fun y => absurd y (by decide), fun y => absurd y (by decide), fun y => absurd y (by decide), fun y => absurd y (by decide), fun y => absurd y (by decide), fun y => absurd y (by decide), fun y => absurd y (by decide), fun y => absurd y (by decide), fun y => absurd y (by decide), fun y => absurd y (by decide), fun y => absurd y (by decide), fun y => absurd y (by decide), fun y => absurd y (by decide), fun y => absurd y (by decide), fun _ => ?_, fun y => absurd y (by decide), fun y => absurd y (by decide), fun y => absurd y (by decide), trivial⟩, fun y => absurd (by decide) y⟩
  refine S_Runner_goOn (d := d + 1) ⟨fun _ => ?_, fun y => absurd y (by decide), fun y => absurd y (by decide), fun y => absurd y (by decide), fun y => absurd y (by decide), fun y => absurd y (by decide), fun y => absurd y (by decide), trivial⟩
  exact ⟨rfl, rfl, h⟩
theorem s2_n15 {x : Int64} (h : XM σ0 A F s p σ) : Dv (d + 3) 227 [.ref 98, .int (15 : Int32), .long x] σ (fun σ' => XM σ0 A F s p σ') := by
  refine S_Runner_step (d := d + 2) ⟨fun _ => ⟨fun y => absurd y (by decide), fun y => absurd y (by decide), fun y => absurd y (by decide), fun y => absurd y (by decide), fun y => absurd y (by decide), fun y => absurd y (by decide), fun y => absurd y (by decide), fun y => absurd y (by decide), fun y => absurd y (by decide), fun y => absurd y (by decide), fun y => absurd y (by decide), fun y => absurd y (by decide), fun y => absurd y (by decide), fun y => absurd y (by decide), fun y => absurd y (by decide), fun y => absurd y (by decide), fun _ => ?_, fun y => absurd y (by decide), fun y => absurd y (by decide), trivial⟩, fun y => absurd (by decide) y⟩
  refine S_Runner_goOn (d := d + 1) ⟨fun _ => ?_, fun y => absurd y (by decide), fun y => absurd y (by decide), fun y => absurd y (by decide), fun y => absurd y (by decide), fun y => absurd y (by decide), fun y => absurd y (by decide), trivial⟩
  exact ⟨rfl, rfl, h⟩
theorem s2_n16 {x : Int64} (h : XM σ0 A F s p σ) : Dv (d + 3) 227 [.ref 98, .int (16 : Int32), .long x] σ (fun σ' => XM σ0 A F s p σ') := by
  refine S_Runner_step (d := d + 2) ⟨fun _ => ⟨fun y => absurd y (by decide), fun y => absurd y (by decide), fun y => absurd y (by decide), fun y => absurd y (by decide), fun y => absurd y (by decide), fun y => absurd y (by decide), fun y => absurd y (by decide), fun y => absurd y (by decide), fun y => absurd y (by decide), fun y => absurd y (by decide), fun y => absurd y (by decide), fun y => absurd y (by decide), fun y => absurd y (by decide), fun y => absurd y (by decide), fun y => absurd y (by decide), fun y => absurd y (by decide), fun y => absurd y (by decide), fun _ => ?_, fun y => absurd y (by decide), trivial⟩, fun y => absurd (by decide) y⟩
  refine S_Runner_goOn (d := d + 1) ⟨fun _ => ?_, fun y => absurd y (by decide), fun y => absurd y (by decide), fun y => absurd y (by decide), fun y => absurd y (by decide), fun y => absurd y (by decide), fun y => absurd y (by decide), trivial⟩
  exact ⟨rfl, rfl, h⟩
theorem s2_unb {v : Int32} {k : Nat} {L : List Int32} (h : XM σ0 (v :: (L ++ A)) F s p σ) (hk : L.length = k) : Dv (d + 3) 227 [.ref 98, .int (13 : Int32), .long (lN k)] σ (fun σ' => XM σ0 (v :: A) F s p σ') := by
  refine S_Runner_step (d := d + 2) ⟨fun _ => ⟨fun y => absurd y (by decide), fun y => absurd y (by decide), fun y => absurd y (by decide), fun y => absurd y (by decide), fun y => absurd y (by decide), fun y => absurd y (by decide), fun y => absurd y (by decide), fun y => absurd y (by decide), fun y => absurd y (by decide), fun y => absurd y (by decide), fun y => absurd y (by decide), fun y => absurd y (by decide), fun y => absurd y (by decide), fun y => absurd y (by decide), fun _ => ?_, fun y => absurd y (by decide), fun y => absurd y (by decide), fun y => absurd y (by decide), fun y => absurd y (by decide), trivial⟩, fun y => absurd (by decide) y⟩
  rw [lN_i]
  refine yV rfl (rx_unb (d := d + 1) h hk) fun σ5 h5 w5 => ?_
  show (sW σ5 σ).2.2 = σ.2.2 ∧ _
  rw [w5]
  exact ⟨h.re h5, h5⟩
theorem s2_give {x : Int64} {v : Int32} {M : List Int32} {b rt : Nat} (h : XM σ0 (v :: (M ++ A)) ((b, rt) :: F) s p σ) (hb : b = A.length) : Dv (d + 3) 227 [.ref 98, .int (17 : Int32), .long x] σ (fun σ' => XM σ0 (v :: A) F s rt σ') := by
  refine S_Runner_step (d := d + 2) ⟨fun _ => ⟨fun y => absurd y (by decide), fun y => absurd y (by decide), fun y => absurd y (by decide), fun y => absurd y (by decide), fun y => absurd y (by decide), fun y => absurd y (by decide), fun y => absurd y (by decide), fun y => absurd y (by decide), fun y => absurd y (by decide), fun y => absurd y (by decide), fun y => absurd y (by decide), fun y => absurd y (by decide), fun y => absurd y (by decide), fun y => absurd y (by decide), fun y => absurd y (by decide), fun y => absurd y (by decide), fun y => absurd y (by decide), fun y => absurd y (by decide), fun _ => ?_, trivial⟩, fun y => absurd (by decide) y⟩
  refine yV rfl (rx_leave (d := d + 1) h hb) fun σ5 h5 w5 => ?_
  show (sW σ5 σ).2.2 = σ.2.2 ∧ _
  rw [w5]
  exact ⟨h.re h5, h5⟩
theorem s2_op {k : Nat} {x0 : Int64} {x y : Int32} (h : XM σ0 (y :: x :: A) F s p σ) (hk : k < 1000) (hk2 : 32 ≤ k) : Dv (d + 3) 227 [.ref 98, .int (nI k), .long x0] σ (fun σ' => XO1 σ0 A F s p (rO2 k x y) σ') := by
  refine S_Runner_step (d := d + 2) ⟨fun y => absurd y (nI_nlt (a := k) (b := 32) hk2 (by omega)), fun _ => ?_⟩
  refine yV rfl (rx_op (d := d) h hk) fun σ5 h5 w5 => ?_
  show (sW σ5 σ).2.2 = σ.2.2 ∧ _
  exact ⟨rfl, by rw [w5]; exact h5⟩
/-- a FUNCTION is called by its NAME -/
theorem s2_call {f : Nat} {P : fkS → Prop} (h : XM σ0 A F s p σ) (hc : Dv (d + 2) 226 [.ref 98, .int (nI f), .int (nI p)] σ P) : Dv (d + 3) 227 [.ref 98, .int (2 : Int32), .long (lN f)] σ P := by
  refine S_Runner_step (d := d + 2) ⟨fun _ => ⟨fun y => absurd y (by decide), fun y => absurd y (by decide), fun y => absurd y (by decide), fun _ => ?_, fun y => absurd y (by decide), fun y => absurd y (by decide), fun y => absurd y (by decide), fun y => absurd y (by decide), fun y => absurd y (by decide), fun y => absurd y (by decide), fun y => absurd y (by decide), fun y => absurd y (by decide), fun y => absurd y (by decide), fun y => absurd y (by decide), fun y => absurd y (by decide), fun y => absurd y (by decide), fun y => absurd y (by decide), fun y => absurd y (by decide), fun y => absurd y (by decide), trivial⟩, fun y => absurd (by decide) y⟩
  rw [lN_i, h.2.2.2.1]
  refine yV rfl hc fun σ5 h5 w5 => ?_
  show (sW σ5 σ).2.2 = σ.2.2 ∧ _
  exact ⟨rfl, by rw [w5]; exact h5⟩
/-- one that was told -/
theorem s2_do {u w : Int32} {x0 : Int64} {P : fkS → Prop} (h : XM σ0 (u :: w :: A) F s p σ) (hc : ∀ σ', XM σ0 (u :: A) F s p σ' → Dv (d + 2) 226 [.ref 98, .int w, .int (nI p)] σ' P) : Dv (d + 3) 227 [.ref 98, .int (6 : Int32), .long x0] σ P := by
  have hA : A.length + 2 ≤ 12000 := h.1.2.1
  refine S_Runner_step (d := d + 2) ⟨fun _ => ⟨fun y => absurd y (by decide), fun y => absurd y (by decide), fun y => absurd y (by decide), fun y => absurd y (by decide), fun y => absurd y (by decide), fun y => absurd y (by decide), fun y => absurd y (by decide), fun _ => ?_, fun y => absurd y (by decide), fun y => absurd y (by decide), fun y => absurd y (by decide), fun y => absurd y (by decide), fun y => absurd y (by decide), fun y => absurd y (by decide), fun y => absurd y (by decide), fun y => absurd y (by decide), fun y => absurd y (by decide), fun y => absurd y (by decide), fun y => absurd y (by decide), trivial⟩, fun y => absurd (by decide) y⟩
  refine yI rfl (rx_pop h) fun x σ1 ⟨hx, h1⟩ w1 => ?_
  subst hx
  rw [w1]
  refine yI (h.re h1) (rx_pop h1) fun y σ2 ⟨hy, h2⟩ w2 => ?_
  subst hy
  rw [w2]
  refine yV (h.re h2) (rx_push h2 (by omega)) fun σ3 h3 w3 => ?_
  rw [w3, h3.2.2.2.1]
  refine yV (h.re h3) (hc σ3 h3) fun σ5 h5 w5 => ?_
  show (sW σ5 σ).2.2 = σ.2.2 ∧ _
  exact ⟨rfl, by rw [w5]; exact h5⟩
end ST0
