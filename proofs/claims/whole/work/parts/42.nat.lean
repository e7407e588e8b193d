/-! NUMBERS AS NATURAL ONES; THINGS OF A MODULE -/
def bR {α β : Type} (R : Rr α) (f : α → Nat → Rr β) : Rr β := match R with
  | .inl (a, q) => f a q
  | .inr x => .inr x
def nU (t : Nat → UInt8) (e p : Nat) : Rr Nat := match rU t e p with
  | .inl (v, q) => .inl (v.toInt.toNat, q)
  | .inr x => .inr x
theorem nU_l {t : Nat → UInt8} {e p q B : Nat} (h : nU t e p = .inl (B, q)) : rU t e p = .inl (lN B, q) ∧ B < 2 ^ 32 ∧ p < q ∧ q ≤ e := by
  unfold nU at h
  split at h
  next v q2 hq =>
    obtain ⟨B2, h1, rfl, h2, h3⟩ := rU_nat hq
    have e1 : (lN B2).toInt.toNat = B2 := by rw [pk_lT (by omega)]; rfl
    have e2 := Sum.inl.inj h
    rw [e1] at e2
    cases e2
    exact ⟨hq, h1, h2, h3⟩
  · cases h
theorem nU_r {t : Nat → UInt8} {e p : Nat} {x : Int32 × Int32} (h : nU t e p = .inr x) : rU t e p = .inr x := by
  unfold nU at h
  split at h
  · cases h
  next hq => 
    cases h
    exact hq
def nV (t : Nat → UInt8) (e p : Nat) : Rr Nat := bR (nU t e p) fun B q => if B ≤ 60 then .inl (B, q) else .inr (-2, nI p)
theorem nV_l {t : Nat → UInt8} {e p q B : Nat} (h : nV t e p = .inl (B, q)) : rV t e p = .inl (nI B, q) ∧ B ≤ 60 ∧ p < q ∧ q ≤ e := by
  unfold nV at h
  cases hU : nU t e p with
  | inl x =>
    obtain ⟨B2, q2⟩ := x
    rw [hU] at h
    simp only [bR] at h
    split at h
    next h60 =>
      cases h
      obtain ⟨h1, h2, h3, h4⟩ := nU_l hU
      refine ⟨?_, h60, h3, h4⟩
      have hc : lg_cmp (lN B) 60 ≤ 0 := (lg_cmp_le _ _).mpr ((pk_lLE (b := 60) (by omega) (by omega)).mpr h60)
      rw [rV_l h1, if_pos hc, lN_i]
    · cases h
  | inr x =>
    rw [hU] at h
    cases h
theorem nV_r {t : Nat → UInt8} {e p : Nat} {x : Int32 × Int32} (h : nV t e p = .inr x) : rV t e p = .inr x := by
  unfold nV at h
  cases hU : nU t e p with
  | inl y =>
    obtain ⟨B2, q2⟩ := y
    rw [hU] at h
    simp only [bR] at h
    split at h
    · cases h
    next h60 =>
      cases h
      obtain ⟨h1, h2, h3, h4⟩ := nU_l hU
      have hc : ¬ lg_cmp (lN B2) 60 ≤ 0 := fun z => h60 ((pk_lLE (b := 60) (by omega) (by omega)).mp ((lg_cmp_le _ _).mp z))
      rw [rV_l h1, if_neg hc]
  | inr y =>
    rw [hU] at h
    cases h
    exact rV_r (nU_r hU)
def nN (t : Nat → UInt8) (e p : Nat) : Rr Nat := if p < e then .inl ((t p).toNat, p + 1) else .inr (-1, nI e)
theorem nN_l {t : Nat → UInt8} {e p q B : Nat} (h : nN t e p = .inl (B, q)) : rN t e p = .inl (nI B, q) ∧ B = (t p).toNat ∧ q = p + 1 ∧ p < e := by
  unfold nN at h
  split at h
  next hz =>
    cases h
    unfold rN
    rw [if_pos hz]
    exact ⟨rfl, rfl, rfl, hz⟩
  · cases h
theorem nN_r {t : Nat → UInt8} {e p : Nat} {x : Int32 × Int32} (h : nN t e p = .inr x) : rN t e p = .inr x := by
  unfold nN at h
  split at h
  · cases h
  next hz =>
    cases h
    unfold rN
    rw [if_neg hz]
/-- is a VALUE TYPE -/
def isT (v : Nat) : Prop := v = 127 ∨ v = 126
def nT (t : Nat → UInt8) (e p : Nat) : Rr Nat := bR (nN t e p) fun v q => if v = 124 ∨ v = 125 then .inr (-2, nI p) else if v = 127 ∨ v = 126 then .inl (v, q) else .inr (-1, nI p)
theorem nI_lit {a b : Nat} (ha : a < 2 ^ 31) (hb : b < 2 ^ 31) : nI a = nI b ↔ a = b := nI_eq ha hb
theorem nT_l {t : Nat → UInt8} {e p q B : Nat} (h : nT t e p = .inl (B, q)) : rT t e p = .inl (nI B, q) ∧ isT B ∧ B = (t p).toNat ∧ q = p + 1 ∧ p < e := by
  unfold nT at h
  cases hN : nN t e p with
  | inl y =>
    obtain ⟨v, q2⟩ := y
    rw [hN] at h
    simp only [bR] at h
    obtain ⟨h1, h2, h3, h4⟩ := nN_l hN
    split at h
    · cases h
    next n1 =>
      split at h
      next n2 =>
        cases h
        refine ⟨?_, n2, h2, h3, h4⟩
        rw [rT_l h1]
        rcases n2 with rfl | rfl
        · rw [if_neg (by decide), if_neg (by decide), if_pos (by decide)]
        · rw [if_neg (by decide), if_neg (by decide), if_neg (by decide), if_pos (by decide)]
      · cases h
  | inr y =>
    rw [hN] at h
    cases h
theorem nT_r {t : Nat → UInt8} {e p : Nat} {x : Int32 × Int32} (h : nT t e p = .inr x) : rT t e p = .inr x := by
  unfold nT at h
  cases hN : nN t e p with
  | inl y =>
    obtain ⟨v, q2⟩ := y
    rw [hN] at h
    simp only [bR] at h
    obtain ⟨h1, h2, h3, h4⟩ := nN_l hN
    have hv : v < 256 := by have := (t p).toNat_lt; omega
    have el : ∀ b : Nat, b < 256 → (nI v = nI b ↔ v = b) := fun b hb => nI_eq (by omega) (by omega)
    rw [rT_l h1]
    split at h
    next n1 =>
      cases h
      rcases n1 with rfl | rfl
      · rw [if_pos (by decide)]
      · rw [if_neg (by decide), if_pos (by decide)]
    next n1 =>
      split at h
      · cases h
      next n2 =>
        cases h
        have d1 : ¬ nI v = 124 := fun z => n1 (Or.inl ((el 124 (by decide)).mp z))
        have d2 : ¬ nI v = 125 := fun z => n1 (Or.inr ((el 125 (by decide)).mp z))
        have d3 : ¬ nI v = 127 := fun z => n2 (Or.inl ((el 127 (by decide)).mp z))
        have d4 : ¬ nI v = 126 := fun z => n2 (Or.inr ((el 126 (by decide)).mp z))
        rw [if_neg d1, if_neg d2, if_neg d3, if_neg d4]
  | inr y =>
    rw [hN] at h
    cases h
    exact rT_r (nN_r hN)
def rG (W : Bool) (t : Nat → UInt8) (e p : Nat) : Rr Int64 := match sg W t e (sMo W) p 0 with
  | some x => .inl x
  | none => .inr (-1, nI p)
theorem rG_le {W : Bool} {t : Nat → UInt8} {e p q : Nat} {v : Int64} (h : rG W t e p = .inl (v, q)) : p < q ∧ q ≤ e := by
  unfold rG at h
  split at h
  next x hx =>
    cases h
    exact sg_le _ _ _ _ _ hx
  · cases h
/-! the class's contracts with natural numbers -/
theorem XR.to {α β ρ : Type} {R : Rr α} {R2 : Rr β} {val : α → ρ → Prop} {val2 : β → ρ → Prop} {z : ρ → Prop} {σ : fkS} {r : ρ} {σ' : fkS} (h : XR R val z σ r σ') (h1 : ∀ b q, R2 = .inl (b, q) → ∃ a, R = .inl (a, q) ∧ (val a r → val2 b r)) (h2 : ∀ x, R2 = .inr x → R = .inr x) : XR R2 val2 z σ r σ' := by
  cases h3 : R2 with
  | inl y =>
    obtain ⟨b, q⟩ := y
    obtain ⟨a, e1, e2⟩ := h1 b q h3
    rw [e1] at h
    exact ⟨e2 h.1, h.2.1, h.2.2⟩
  | inr y =>
    rw [h2 y h3] at h
    exact h
theorem MR.to {α β ρ : Type} {R : Rr α} {R2 : Rr β} {val : α → ρ → Prop} {val2 : β → ρ → Prop} {z : ρ → Prop} {σ : fkS} {r : ρ} {σ' : fkS} (h : MR R val z σ r σ') (h1 : ∀ b q, R2 = .inl (b, q) → ∃ a, R = .inl (a, q) ∧ (val a r → val2 b r)) (h2 : ∀ x, R2 = .inr x → R = .inr x) : MR R2 val2 z σ r σ' := by
  cases h3 : R2 with
  | inl y =>
    obtain ⟨b, q⟩ := y
    obtain ⟨a, e1, e2⟩ := h1 b q h3
    rw [e1] at h
    exact ⟨e2 h.1, h.2.1, h.2.2⟩
  | inr y =>
    rw [h2 y h3] at h
    exact h
section CNAT
variable {d n e p b : Nat} {t : Nat → UInt8} {σ : fkS}
theorem cU (h : RX t n e p σ) (hf : σ.1 46 3 = 0) : Dj (d + 1) 26 [.ref 46] σ (fun r σ' => XR (nU t e p) (fun B r => r = lN B) (fun r => r = 0) σ r σ') := by
  refine (c_uX (d := d) h hf).mono fun x σ' hx => ?_
  obtain ⟨r, rfl, e1, hu⟩ := Qj_s hx
  exact ⟨e1, hu.to (fun B q hq => ⟨lN B, (nU_l hq).1, id⟩) fun x hx => nU_r hx⟩
theorem cV (h : RX t n e p σ) (hf : σ.1 46 3 = 0) : Di (d + 2) 28 [.ref 46] σ (fun r σ' => XR (nV t e p) (fun B r => r = nI B) (fun r => r = 0) σ r σ') := by
  refine (c_vec (d := d) h hf).mono fun x σ' hx => ?_
  obtain ⟨r, rfl, e1, hu⟩ := Qi_s hx
  exact ⟨e1, hu.to (fun B q hq => ⟨nI B, (nV_l hq).1, id⟩) fun x hx => nV_r hx⟩
theorem cN (h : RX t n e p σ) (hf : σ.1 46 3 = 0) : Di (d + 1) 24 [.ref 46] σ (fun r σ' => XR (nN t e p) (fun B r => r = nI B) (fun r => r = 0) σ r σ') := by
  refine (c_next (d := d) h hf).mono fun x σ' hx => ?_
  obtain ⟨r, rfl, e1, hu⟩ := Qi_s hx
  exact ⟨e1, hu.to (fun B q hq => ⟨nI B, (nN_l hq).1, id⟩) fun x hx => nN_r hx⟩
theorem cT (h : RX t n e p σ) (hf : σ.1 46 3 = 0) : Di (d + 2) 30 [.ref 46] σ (fun r σ' => XR (nT t e p) (fun B r => r = nI B) (fun _ => True) σ r σ') := by
  refine (c_valueType (d := d) h hf).mono fun x σ' hx => ?_
  obtain ⟨r, rfl, e1, hu⟩ := Qi_s hx
  exact ⟨e1, hu.to (fun B q hq => ⟨nI B, (nT_l hq).1, id⟩) fun x hx => nT_r hx⟩
theorem cG {W : Bool} (h : RX t n e p σ) (hf : σ.1 46 3 = 0) : Dj (d + 1) 43 [.ref 46, .int (sWd W)] σ (fun r σ' => XR (rG W t e p) (fun v r => r = v) (fun r => r = 0) σ r σ') := by
  have key : Dj (d + 1) 43 [.ref 46, .int (sWd W)] σ (fun r σ' => gX W t e p (sMo W) 0 σ p r σ') := by
    have hp := h.2.2.2.2.2.1
    cases W
    · refine S_Scan_signed ⟨fun _ => ⟨fun _ => ?_, fun z => absurd z (by decide)⟩, fun z => absurd z (by decide)⟩
      rw [hp]
      exact w_signed (W := false) 10 0 p 0 σ rfl h
    · refine S_Scan_signed ⟨fun z => absurd rfl z, fun _ => ⟨fun z => absurd rfl z, fun _ => ?_⟩⟩
      rw [hp]
      exact w_signed (W := true) 5 0 p 0 σ rfl h
  refine key.mono fun x σ' hx => ?_
  obtain ⟨r, rfl, hr, hu⟩ := Qj_s hx
  refine ⟨hr, ?_⟩
  have h1 := h.2.2.2.2.2.2
  have h2 := h.2.2.1
  have h3 := h.2.2.2.1
  unfold gX at hu
  unfold XR rG
  split at hu
  next v q hq =>
    have hb := sg_le _ _ _ _ _ hq
    rw [hq]
    exact ⟨hu.1, by omega, hu.2⟩
  next hq =>
    obtain ⟨hr0, q, q1, q2, rfl⟩ := hu
    rw [hq]
    exact ⟨by decide, hr0, q, by omega, flX_0 hf⟩
theorem cGz {W : Bool} (h : RX t n e p σ) (hf : ¬ σ.1 46 3 = 0) : Dj (d + 1) 43 [.ref 46, .int (sWd W)] σ (fun _ σ' => ∃ q, q ≤ 4000 ∧ σ' = okX σ q) := by
  have key : Dj (d + 1) 43 [.ref 46, .int (sWd W)] σ (fun r σ' => gX W t e p (sMo W) 0 σ p r σ') := by
    have hp := h.2.2.2.2.2.1
    cases W
    · refine S_Scan_signed ⟨fun _ => ⟨fun _ => ?_, fun z => absurd z (by decide)⟩, fun z => absurd z (by decide)⟩
      rw [hp]
      exact w_signed (W := false) 10 0 p 0 σ rfl h
    · refine S_Scan_signed ⟨fun z => absurd rfl z, fun _ => ⟨fun z => absurd rfl z, fun _ => ?_⟩⟩
      rw [hp]
      exact w_signed (W := true) 5 0 p 0 σ rfl h
  refine key.mono fun x σ' hx => ?_
  obtain ⟨r, rfl, hr, hu⟩ := Qj_s hx
  refine ⟨hr, ?_⟩
  have h1 := h.2.2.2.2.2.2
  have h2 := h.2.2.1
  have h3 := h.2.2.2.1
  unfold gX at hu
  split at hu
  next v q hq =>
    have hb := sg_le _ _ _ _ _ hq
    exact ⟨q, by omega, hu.2⟩
  next hq =>
    obtain ⟨-, q, q1, q2, rfl⟩ := hu
    exact ⟨q, by omega, flX_zq hf⟩
/-! the reference's -/
theorem mU (h : RM t b n e p σ) (hf : σ.1 103 42 = 0) : Cj (d + 1) 246 [.ref 103] σ (fun r σ' => MR (nU t e p) (fun B r => r = lN B) (fun r => r = 0) σ r σ') := by
  refine (c_uM (d := d) h hf).mono fun x σ' hx => ?_
  obtain ⟨r, rfl, hu⟩ := Qj_s hx
  show MR (nU t e p) (fun B r => r = lN B) (fun r => r = 0) σ r σ'
  exact hu.to (fun B q hq => ⟨lN B, (nU_l hq).1, id⟩) fun x hx => nU_r hx
theorem mV (h : RM t b n e p σ) (hf : σ.1 103 42 = 0) : Ci (d + 2) 250 [.ref 103] σ (fun r σ' => MR (nV t e p) (fun B r => r = nI B) (fun r => r = 0) σ r σ') := by
  refine (c_many (d := d) h hf).mono fun x σ' hx => ?_
  obtain ⟨r, rfl, hu⟩ := Qi_s hx
  show MR (nV t e p) (fun B r => r = nI B) (fun r => r = 0) σ r σ'
  exact hu.to (fun B q hq => ⟨nI B, (nV_l hq).1, id⟩) fun x hx => nV_r hx
theorem mN (h : RM t b n e p σ) (hf : σ.1 103 42 = 0) : Ci (d + 1) 243 [.ref 103] σ (fun r σ' => MR (nN t e p) (fun B r => r = nI B) (fun r => r = 0) σ r σ') := by
  refine (c_nextM (d := d) h hf).mono fun x σ' hx => ?_
  obtain ⟨r, rfl, hu⟩ := Qi_s hx
  show MR (nN t e p) (fun B r => r = nI B) (fun r => r = 0) σ r σ'
  exact hu.to (fun B q hq => ⟨nI B, (nN_l hq).1, id⟩) fun x hx => nN_r hx
theorem mT (h : RM t b n e p σ) (hf : σ.1 103 42 = 0) : Ci (d + 2) 253 [.ref 103] σ (fun r σ' => MR (nT t e p) (fun B r => r = nI B) (fun _ => True) σ r σ') := by
  refine (c_valueTypeM (d := d) h hf).mono fun x σ' hx => ?_
  obtain ⟨r, rfl, hu⟩ := Qi_s hx
  show MR (nT t e p) (fun B r => r = nI B) (fun _ => True) σ r σ'
  exact hu.to (fun B q hq => ⟨nI B, (nT_l hq).1, id⟩) fun x hx => nT_r hx
theorem mG {W : Bool} (h : RM t b n e p σ) (hf : σ.1 103 42 = 0) : Cj (d + 1) 257 [.ref 103, .int (sWd W)] σ (fun r σ' => MR (rG W t e p) (fun v r => r = v) (fun r => r = 0) σ r σ') := by
  have key : Cj (d + 1) 257 [.ref 103, .int (sWd W)] σ (fun r σ' => gM W t e p (sMo W) 0 σ p r σ') := by
    have hp := h.2.2.2.2.2.2.1
    cases W
    · refine S_M_signed ⟨fun _ => ⟨fun _ => ?_, fun z => absurd z (by decide)⟩, fun z => absurd hf z⟩
      rw [hp]
      exact w_signedM (W := false) 10 0 p 0 σ rfl (fun _ => by decide) h
    · refine S_M_signed ⟨fun _ => ⟨fun z => absurd rfl z, fun _ => ?_⟩, fun z => absurd hf z⟩
      rw [hp]
      exact w_signedM (W := true) 5 0 p 0 σ rfl (fun _ => by decide) h
  refine key.mono fun x σ' hx => ?_
  obtain ⟨r, rfl, hu⟩ := Qj_s hx
  have h1 := h.2.2.2.2.2.2.2
  have h2 := h.2.2.2.1
  have h3 := h.2.2.2.2.1
  show MR (rG W t e p) (fun v r => r = v) (fun r => r = 0) σ r σ'
  unfold gM at hu
  unfold MR rG
  split at hu
  next v q hq =>
    have hb := sg_le _ _ _ _ _ hq
    rw [hq]
    exact ⟨hu.1, by omega, hu.2⟩
  next hq =>
    obtain ⟨hr0, q, q1, q2, rfl⟩ := hu
    rw [hq]
    exact ⟨by decide, hr0, q, by omega, flM_0 hf⟩
theorem mGz {W : Bool} (hf : ¬ σ.1 103 42 = 0) : Cj (d + 1) 257 [.ref 103, .int (sWd W)] σ (fun r σ' => r = 0 ∧ σ' = σ) := S_M_signed ⟨fun z => absurd z hf, fun _ => ⟨rfl, rfl⟩⟩
end CNAT
