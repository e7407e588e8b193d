/-! ONE BYTE, A VALUE'S TYPE -/
def rN (t : Nat → UInt8) (e p : Nat) : Rr Int32 := if p < e then .inl (bI (t p), p + 1) else .inr (-1, nI e)
theorem okX_id {t : Nat → UInt8} {n e p : Nat} {σ : fkS} (h : RX t n e p σ) : okX σ p = σ := sI_id h.2.2.2.2.2.1
theorem okM_id {t : Nat → UInt8} {b n e p : Nat} {σ : fkS} (h : RM t b n e p σ) : okM σ p = σ := sI_id h.2.2.2.2.2.2.1
theorem flX_00 {t : Nat → UInt8} {n e p : Nat} {σ : fkS} {w pl : Int32} (h : RX t n e p σ) (hf : σ.1 46 3 = 0) : flX σ w pl = ftX σ p w pl := by
  have := flX_0 (q := p) (w := w) (pl := pl) hf
  rw [← this]
  congr 1
  exact (okX_id h).symm
theorem flM_00 {t : Nat → UInt8} {b n e p : Nat} {σ : fkS} {w pl : Int32} (h : RM t b n e p σ) (hf : σ.1 103 42 = 0) : flM σ w pl = ftM σ p w pl := by
  have := flM_0 (q := p) (w := w) (pl := pl) hf
  rw [← this]
  congr 1
  exact (okM_id h).symm
theorem flM_z {σ : fkS} {w pl : Int32} (hf : ¬ σ.1 103 42 = 0) : flM σ w pl = σ := by
  unfold flM
  rw [if_neg hf]
theorem c_next {d n e p : Nat} {t : Nat → UInt8} {σ : fkS} (h : RX t n e p σ) (hf : σ.1 46 3 = 0) : Di (d + 1) 24 [.ref 46] σ (fun r σ' => XR (rN t e p) (fun a b => b = a) (fun r => r = 0) σ r σ') := by
  obtain ⟨h1, h2, h3, h4, h5, h6, h7, -⟩ := id h
  refine S_Scan_next h1 ⟨fun z => ?_, fun z => ?_⟩
  · rw [h5, h6] at z
    have hz : p < e := (nI_ltI (by omega) (by omega)).mp z
    refine ⟨by decide, ?_, ?_⟩
    · rw [h6]
      exact vp_in_nI (by omega) (by decide)
    · have hb : (σ.1 25 ((σ.1 46 1).toNatClampNeg)) &&& (255 : Int32) = bI (t p) := by
        rw [h6, nI_clamp (by omega), h2 p (by omega)]
        exact bI_X _
      rw [hb, h6, show nI p + 1 = nI (p + 1) from nI_1 p]
      refine ⟨rfl, ?_⟩
      unfold rN
      rw [if_pos hz]
      exact ⟨rfl, by omega, rfl⟩
  · rw [h5, h6] at z
    have hz : ¬ p < e := fun y => z ((nI_ltI (by omega) (by omega)).mpr y)
    refine c_fail.mono fun x σ1 hx => ?_
    obtain ⟨rfl, e1, rfl⟩ := Qv_s hx
    refine ⟨e1, ?_⟩
    simp only [sW_eq e1]
    refine ⟨e1, ?_⟩
    unfold rN
    rw [if_neg hz]
    exact ⟨by decide, rfl, p, h7, by rw [h5]; exact flX_00 h hf⟩
theorem c_nextz {d n e p : Nat} {t : Nat → UInt8} {σ : fkS} (h : RX t n e p σ) (hf : ¬ σ.1 46 3 = 0) : Di (d + 1) 24 [.ref 46] σ (fun _ σ' => ∃ q, q ≤ 4000 ∧ σ' = okX σ q) := by
  obtain ⟨h1, h2, h3, h4, h5, h6, h7, -⟩ := id h
  refine S_Scan_next h1 ⟨fun z => ?_, fun z => ?_⟩
  · rw [h5, h6] at z
    have hz : p < e := (nI_ltI (by omega) (by omega)).mp z
    refine ⟨by decide, ?_, ?_⟩
    · rw [h6]
      exact vp_in_nI (by omega) (by decide)
    · rw [h6, show nI p + 1 = nI (p + 1) from nI_1 p]
      exact ⟨rfl, p + 1, by omega, rfl⟩
  · refine c_fail.mono fun x σ1 hx => ?_
    obtain ⟨rfl, e1, rfl⟩ := Qv_s hx
    refine ⟨e1, ?_⟩
    simp only [sW_eq e1]
    exact ⟨e1, p, h7, by rw [flX_z hf, okX_id h]⟩
theorem c_nextM {d b n e p : Nat} {t : Nat → UInt8} {σ : fkS} (h : RM t b n e p σ) (hf : σ.1 103 42 = 0) : Ci (d + 1) 243 [.ref 103] σ (fun r σ' => MR (rN t e p) (fun a b => b = a) (fun r => r = 0) σ r σ') := by
  obtain ⟨h0, h1, h2, h3, h4, h5, h6, h7⟩ := id h
  refine S_M_next ⟨fun _ => ⟨fun z => ?_, fun z => ?_⟩, fun z => absurd hf z⟩
  · rw [h5, h6] at z
    have hz : p < e := (nI_ltI (by omega) (by omega)).mp z
    have e1 : (((4000 : Int32) * (σ.1 103 38)) + ((σ.1 103 40) + (1 : Int32))) - (1 : Int32) = nI (4000 * b + p) := by
      rw [h1, h6, show (4000 : Int32) = nI 4000 from rfl, nI_mul, show nI p + (1 : Int32) = nI (p + 1) from nI_1 p, nI_add, ← Nat.add_assoc]
      exact nI_pred _
    rw [e1]
    refine ⟨vp_in_nI (by omega) (by decide), ?_⟩
    rw [nI_clamp (by omega), h2 p (by omega), h6, show nI p + (1 : Int32) = nI (p + 1) from nI_1 p]
    show MR (rN t e p) (fun a b => b = a) (fun r => r = 0) σ _ _
    unfold rN
    rw [if_pos hz]
    exact ⟨rfl, by omega, rfl⟩
  · rw [h5, h6] at z
    have hz : ¬ p < e := fun y => z ((nI_ltI (by omega) (by omega)).mpr y)
    refine c_fails.mono fun x σ1 hx => ?_
    obtain ⟨rfl, rfl⟩ := Qv_s hx
    show MR (rN t e p) (fun a b => b = a) (fun r => r = 0) σ _ _
    unfold rN
    rw [if_neg hz]
    exact ⟨by decide, rfl, p, h7, by rw [h5]; exact flM_00 h hf⟩
theorem c_nextMz {d : Nat} {σ : fkS} (hf : ¬ σ.1 103 42 = 0) : Ci (d + 1) 243 [.ref 103] σ (fun r σ' => r = 0 ∧ σ' = σ) :=
  S_M_next ⟨fun z => absurd z hf, fun _ => ⟨rfl, rfl⟩⟩
