/-! CODES: what stands behind an INSTRUCTION's first byte; the class -/
abbrev Od : Type := Int64 × Nat × List Nat
def pO14 (t : Nat → UInt8) (e q : Nat) : Rr Od := bR (nV t e q) fun n q1 => bR (pFs t e (n + 1) q1) fun l q2 => .inl ((0, n, l), q2)
def pO40 (t : Nat → UInt8) (e q : Nat) : Rr Od := bR (nU t e q) fun al q1 => bR (nU t e q1) fun f q2 => .inl ((lN f, min al 99, []), q2)
def pO17 (t : Nat → UInt8) (e q : Nat) : Rr Od := bR (nU t e q) fun B q1 => bR (rX 0 t e q1) fun _ q2 => .inl (((nI B).toInt64, 0, []), q2)
def pOn (t : Nat → UInt8) (e p op q : Nat) : Rr Od :=
  if op = 12 ∨ op = 13 then bR (nU t e q) fun B q1 => .inl ((0, 0, [B]), q1)
  else if op = 16 ∨ (32 ≤ op ∧ op ≤ 36) then bR (nU t e q) fun B q1 => .inl (((nI B).toInt64, 0, []), q1)
  else if op = 17 then pO17 t e q
  else if op = 63 ∨ op = 64 then bR (rX 0 t e q) fun _ q1 => .inl ((0, 0, []), q1)
  else if op = 65 ∨ op = 66 then bR (rG (decide (op = 65)) t e q) fun v q1 => .inl ((v, 0, []), q1)
  else if 40 ≤ op ∧ op ≤ 62 then pO40 t e q
  else .inr (-1, nI p)
def pOs (t : Nat → UInt8) (e p op q : Nat) : Rr Od := if alz op = true then .inl ((0, 0, []), q) else if rfz op = true then .inr (-2, nI p) else if op = 14 then pO14 t e q else pOn t e p op q
/-- the row that operands make -/
def mkI (p op : Nat) (o : Od) : In := (p, op, o.1, o.2.1, o.2.2)
def rOd (C : List In) (σ0 : fkS) (p op : Nat) (o : Od) (σ : fkS) : Prop := DC (C ++ [mkI p op o]) σ
theorem Fr.addR {C : List In} {σ0 σ : fkS} {op : Nat} {fi : Int64} {se : Int32} {ls : List Nat} (h : AddR C σ0 σ op fi se ls) : Fr sDC σ0 σ := h.1
section INSX
variable {t : Nat → UInt8} {n e d p q op : Nat} {C : List In} {σ : fkS}
/-- zero behind an INSTRUCTION -/
theorem k_zero (h : RX t n e q σ) (hf : σ.1 46 3 = 0) {P : fkS → Prop}
    (ok : ∀ q1, rX 0 t e q = .inl ((), q1) → RX t n e q1 (okX σ q1) → (okX σ q1).1 46 3 = 0 → P (okX σ q1))
    (ft : ∀ w pl σ', rX 0 t e q = .inr (w, pl) → σ'.2.2 = σ.2.2 → ZX t n e w pl σ' → Fr f46 σ σ' → P σ') : Dv (d + 2) 42 [.ref 48, .ref 46] σ P := by
  refine S_CodeReader_zero (kFine h hf ⟨fun z => absurd z (by decide), fun _ => ?_⟩)
  simp only [sW_id]
  refine kV h hf (c_expect h hf) (fun _ q1 hR e1 hR1 hf1 => ⟨rfl, ?_⟩) fun w pl σ1 hR e1 hZ f1 => ?_
  · exact ok q1 hR hR1 hf1
  · simp only [sW_eq e1]
    exact ⟨e1, ft w pl σ1 hR e1 hZ f1⟩
theorem z_zero {w pl : Int32} (h : ZX t n e w pl σ) {P : fkS → Prop} (ok : P σ) : Dv (d + 2) 42 [.ref 48, .ref 46] σ P :=
  S_CodeReader_zero (zFine h ⟨fun _ => ⟨rfl, ok⟩, fun z => absurd rfl z⟩)
/-- br_table's labels -/
theorem w_bt35 {σ0 : fkS} {m : Nat} (hm : m ≤ 60) (hC : C.length + 8 ≤ p) : ∀ (k i q : Nat) (ls : List Nat) (σ : fkS), i + k = m + 1 → RX t n e q σ → σ.1 46 3 = 0 → (lbs C).length + ls.length + 8 ≤ q → AddR C σ0 σ 14 (lN (lbs C).length) (nI m) ls → Wq 38 (d + 3) 35 [none, some (.ref 46), some (.ref 36), none, some (.int (nI m)), some (.int (nI i))] [] σ (Qv fun σ' => σ'.2.2 = σ.2.2 ∧ Fr sDC σ0 σ' ∧ match pFs t e k q with
      | .inl (l, q2) => AddR C σ0 σ' 14 (lN (lbs C).length) (nI m) (ls ++ l) ∧ RX t n e q2 σ' ∧ σ'.1 46 3 = 0
      | .inr (w, pl) => ZX t n e w pl σ')
  | 0, i, q, ls, σ, hi, h, hf, hl, hA => by
    refine S_CodeReader_branchTable_35 ⟨fun _ => ⟨rfl, hA.1, ?_⟩, fun z => absurd (nI_lt (by omega) (by omega)) z⟩
    rw [pFs]
    simp only [List.append_nil]
    exact ⟨hA, h, hf⟩
  | k + 1, i, q, ls, σ, hi, h, hf, hl, hA => by
    refine S_CodeReader_branchTable_35 ⟨fun z => absurd z (nI_nlt (by omega) (by omega)), fun _ => ?_⟩
    have h7 := h.2.2.2.2.2.2
    refine kFine h hf ⟨fun z => absurd z (by decide), fun _ => ?_⟩
    simp only [sW_id]
    refine kJ h hf (cU h hf) (fun B q1 r hR hv e1 hR1 hf1 => ?_) fun w pl r σ1 hR hr0 e1 hZ f1 => ?_
    · subst hv
      obtain ⟨-, -, hq1, hq2⟩ := nU_l hR
      simp only [sW_okX]
      refine kLab (t := t) (n := n) (e := e) (hA.fr okX_fr) (by omega) fun σ2 e2 g1 _ g3 hA2 => ?_
      simp only [sW_eq (show σ2.2.2 = σ.2.2 from e2)]
      have ih := w_bt35 hm hC k (i + 1) q1 (ls ++ [B]) σ2 (by omega) (g1 _ hR1) (g3 hf1) (by rw [List.length_append]; show (lbs C).length + (ls.length + 1) + 8 ≤ q1; omega) hA2
      rw [show nI (i + 1) = nI i + 1 from nI_succ i] at ih
      refine ih.mono fun y σ3 hx => ?_
      obtain ⟨rfl, e3, f3, hu⟩ := Qv_s hx
      refine ⟨e3.trans e2, f3, ?_⟩
      rw [pFs, hR]
      simp only [bR]
      cases hF : pFs t e k q1 with
      | inl y =>
        obtain ⟨l2, q2⟩ := y
        rw [hF] at hu
        simp only [List.append_assoc] at hu ⊢
        exact hu
      | inr y =>
        obtain ⟨w, pl⟩ := y
        rw [hF] at hu
        exact hu
    · subst hr0
      simp only [sW_eq e1]
      refine kLab (t := t) (n := n) (e := e) (B := 0) (hA.fr f1) (by omega) fun σ2 e2 _ g2 _ hA2 => ?_
      simp only [sW_eq (e2.trans e1)]
      have hZ2 := g2 w pl hZ
      have fin : (Qv fun σ' => σ'.2.2 = σ.2.2 ∧ Fr sDC σ0 σ' ∧ match pFs t e (k + 1) q with
          | .inl (l, q2) => AddR C σ0 σ' 14 (lN (lbs C).length) (nI m) (ls ++ l) ∧ RX t n e q2 σ' ∧ σ'.1 46 3 = 0
          | .inr (w, pl) => ZX t n e w pl σ') none σ2 := by
        refine ⟨e2.trans e1, hA2.1, ?_⟩
        rw [pFs, hR]
        exact hZ2
      exact S_CodeReader_branchTable_35 ⟨fun _ => fin, fun _ => zFine hZ2 ⟨fun _ => fin, fun z => absurd rfl z⟩⟩
theorem c_branchTable (h : RX t n e q σ) (hf : σ.1 46 3 = 0) (hD : DC C σ) (hp : p < q) (hC : C.length + 8 ≤ p) (hL : (lbs C).length + 8 ≤ p) : Dv (d + 4) 38 [.ref 48, .ref 46, .ref 36] σ (fun σ' => YR t n e sDC (rOd C σ p 14) (pO14 t e q) σ σ') := by
  have h7 := h.2.2.2.2.2.2
  refine S_CodeReader_branchTable (kAdd (op := 14) h hf hD (by omega) rfl fun σ1 e1 hR1 hf1 hA => ?_)
  simp only [sW_eq e1]
  refine ⟨vp_in_nI (by omega) (by decide), ?_⟩
  have h9 : (σ1.1 36 9).toInt64 = lN (lbs C).length := by
    rw [hA.2.2.1]
    exact nI_l (by show (lbs C).length + 0 < _; omega)
  rw [h9, nI_clamp (by omega)]
  have hA2 := hA.setF (lN (lbs C).length)
  refine kI (hR1.sL (c := 42) (j := C.length) (v := lN (lbs C).length)) hf1 (cV hR1.sL hf1) (fun m q1 r hR hv e2 hR2 hf2 => ?_) fun w pl r σ2 hR hr0 e2 hZ f2 => ?_
  · subst hv
    obtain ⟨-, hm, hq1, hq2⟩ := nV_l hR
    simp only [sW_eq (show (okX (sL σ1 42 C.length (lN (lbs C).length)) q1).2.2 = σ.2.2 from e1)]
    refine ⟨vp_in_nI (by omega) (by decide), ?_⟩
    have hA3 := (hA2.fr (okX_fr (q := q1))).setS (nI m)
    refine (w_bt35 (d := d + 1) hm hC (m + 1) 0 q1 [] _ (Nat.zero_add _) (hR2.sI rfl) (f0_sI hf2 rfl) (by simp; omega) hA3).mono fun y σ3 hx => ?_
    obtain ⟨rfl, e3, f3, hu⟩ := Qv_s hx
    refine ⟨e3.trans e1, f3, ?_⟩
    unfold pO14
    rw [hR]
    simp only [bR]
    cases hF : pFs t e (m + 1) q1 with
    | inl y =>
      obtain ⟨l2, q2⟩ := y
      rw [hF] at hu
      obtain ⟨u1, u2, u3⟩ := hu
      refine ⟨AddR.dc (i := mkI p 14 (0, m, l2)) hD u1 (by omega) rfl ?_ rfl rfl, u2, u3⟩
      unfold iFirst
      rw [lbB_len, if_pos (show iOp (mkI p 14 (0, m, l2)) = 12 ∨ iOp (mkI p 14 (0, m, l2)) = 13 ∨ iOp (mkI p 14 (0, m, l2)) = 14 from Or.inr (Or.inr rfl))]
    | inr y =>
      obtain ⟨w, pl⟩ := y
      rw [hF] at hu
      exact hu
  · subst hr0
    simp only [sW_eq (show σ2.2.2 = σ.2.2 from e2.trans e1)]
    refine ⟨vp_in_nI (by omega) (by decide), ?_⟩
    have hA3 := (hA2.fr f2).setS 0
    have hZ2 : ZX t n e w pl (sI σ2 43 C.length 0) := hZ.sI rfl
    have hp14 : pO14 t e q = .inr (w, pl) := by unfold pO14; rw [hR]; rfl
    have fin : ∀ σ3, σ3.2.2 = σ.2.2 → Fr sDC σ σ3 → ZX t n e w pl σ3 → (Qv fun σ' => σ'.2.2 = σ.2.2 ∧ YR t n e sDC (rOd C σ p 14) (pO14 t e q) σ σ') none σ3 := by
      intro σ3 e3 f3 z3
      refine ⟨e3, f3, ?_⟩
      rw [hp14]
      exact z3
    refine S_CodeReader_branchTable_35 ⟨fun _ => fin _ (e2.trans e1) hA3.1 hZ2, fun _ => zFine hZ2 ⟨fun _ => fin _ (e2.trans e1) hA3.1 hZ2, fun z => absurd rfl z⟩⟩
end INSX
