/-! A VALUE'S TYPE -/
def rT (t : Nat → UInt8) (e p : Nat) : Rr Int32 := match rN t e p with
  | .inl (v, q) => if v = 124 then .inr (-2, nI p) else if v = 125 then .inr (-2, nI p) else if v = 127 then .inl (v, q) else if v = 126 then .inl (v, q) else .inr (-1, nI p)
  | .inr x => .inr x
theorem rT_l {t : Nat → UInt8} {e p q : Nat} {v : Int32} (hR : rN t e p = .inl (v, q)) : rT t e p = if v = 124 then .inr (-2, nI p) else if v = 125 then .inr (-2, nI p) else if v = 127 then .inl (v, q) else if v = 126 then .inl (v, q) else .inr (-1, nI p) := by
  unfold rT
  rw [hR]
theorem rT_r {t : Nat → UInt8} {e p : Nat} {x : Int32 × Int32} (hR : rN t e p = .inr x) : rT t e p = .inr x := by
  unfold rT
  rw [hR]
theorem c_valueType {d n e p : Nat} {t : Nat → UInt8} {σ : fkS} (h : RX t n e p σ) (hf : σ.1 46 3 = 0) : Di (d + 2) 30 [.ref 46] σ (fun r σ' => XR (rT t e p) (fun a b => b = a) (fun _ => True) σ r σ') := by
  refine S_Scan_valueType ((c_next (d := d) h hf).mono fun x σ1 hx => ?_)
  obtain ⟨v, rfl, hr, hu⟩ := Qi_s hx
  refine ⟨hr, ?_⟩
  simp only [sW_eq hr]
  have hp := h.2.2.2.2.2.1
  unfold XR at hu
  cases hR : rN t e p with
  | inl a =>
    obtain ⟨a, q⟩ := a
    rw [rT_l hR]
    rw [hR] at hu
    obtain ⟨rfl, q4, rfl⟩ := hu
    have fl : ∀ w : Int32, w ≠ 0 → Dv (d + 1) 22 [.ref 46, .int w, .int (σ.1 46 1)] (okX σ q) (fun σ3 => (sW σ3 σ).2.2 = σ.2.2 ∧ XR (Sum.inr (w, nI p) : Rr Int32) (fun a b => b = a) (fun _ => True) σ v (sW σ3 σ)) := by
      intro w hw
      refine c_fail.mono fun x σ3 hx => ?_
      obtain ⟨rfl, h3, rfl⟩ := Qv_s hx
      refine ⟨h3, ?_⟩
      simp only [sW_eq (h3.trans hr)]
      refine ⟨h3.trans hr, hw, trivial, q, q4, ?_⟩
      rw [hp]
      exact flX_0 hf
    refine ⟨fun y => ?_, fun y => ⟨fun y2 => ⟨fun y3 => ?_, fun y3 => ⟨fun y4 => ?_, fun y4 => ?_⟩⟩, fun y2 => ?_⟩⟩
    · rw [if_pos y]; exact fl _ (by decide)
    · rw [if_neg y, if_neg y2, if_pos y3]; exact ⟨hr, rfl, q4, rfl⟩
    · rw [if_neg y, if_neg y2, if_neg y3, if_pos y4]; exact ⟨hr, rfl, q4, rfl⟩
    · rw [if_neg y, if_neg y2, if_neg y3, if_neg y4]; exact fl _ (by decide)
    · rw [if_neg y, if_pos y2]; exact fl _ (by decide)
  | inr a =>
    obtain ⟨w, pl⟩ := a
    rw [rT_r hR]
    rw [hR] at hu
    obtain ⟨hw, rfl, q, q4, rfl⟩ := hu
    have hz : ¬ (ftX σ q w pl).1 46 3 = 0 := by rw [ftX_f]; exact hw
    refine ⟨fun y => absurd y (by decide), fun _ => ⟨fun _ => ⟨fun y => absurd y (by decide), fun _ => ⟨fun y => absurd y (by decide), fun _ => ?_⟩⟩, fun y => absurd y (by decide)⟩⟩
    refine c_fail.mono fun x σ3 hx => ?_
    obtain ⟨rfl, h3, rfl⟩ := Qv_s hx
    refine ⟨h3, ?_⟩
    simp only [sW_eq (h3.trans hr)]
    rw [flX_z hz]
    exact ⟨hr, hw, trivial, q, q4, rfl⟩
theorem c_valueTypeM {d b n e p : Nat} {t : Nat → UInt8} {σ : fkS} (h : RM t b n e p σ) (hf : σ.1 103 42 = 0) : Ci (d + 2) 253 [.ref 103] σ (fun r σ' => MR (rT t e p) (fun a b => b = a) (fun _ => True) σ r σ') := by
  refine S_M_valueType ((c_nextM (d := d) h hf).mono fun x σ1 hx => ?_)
  obtain ⟨v, rfl, hu⟩ := Qi_s hx
  have hp := h.2.2.2.2.2.2.1
  unfold MR at hu
  cases hR : rN t e p with
  | inl a =>
    obtain ⟨a, q⟩ := a
    rw [rT_l hR]
    rw [hR] at hu
    obtain ⟨rfl, q4, rfl⟩ := hu
    have fl : ∀ w : Int32, w ≠ 0 → Cv (d + 1) 244 [.ref 103, .int w, .int (σ.1 103 40)] (okM σ q) (fun σ3 => MR (Sum.inr (w, nI p) : Rr Int32) (fun a b => b = a) (fun _ => True) σ v σ3) := by
      intro w hw
      refine c_fails.mono fun x σ3 hx => ?_
      obtain ⟨rfl, rfl⟩ := Qv_s hx
      refine ⟨hw, trivial, q, q4, ?_⟩
      rw [hp]
      exact flM_0 hf
    refine ⟨fun y => ?_, fun y => ⟨fun y2 => ⟨fun y3 => ?_, fun y3 => ⟨fun y4 => ?_, fun y4 => ?_⟩⟩, fun y2 => ?_⟩⟩
    · rw [if_pos y]; exact fl _ (by decide)
    · rw [if_neg y, if_neg y2, if_pos y3]; exact ⟨rfl, q4, rfl⟩
    · rw [if_neg y, if_neg y2, if_neg y3, if_pos y4]; exact ⟨rfl, q4, rfl⟩
    · rw [if_neg y, if_neg y2, if_neg y3, if_neg y4]; exact fl _ (by decide)
    · rw [if_neg y, if_pos y2]; exact fl _ (by decide)
  | inr a =>
    obtain ⟨w, pl⟩ := a
    rw [rT_r hR]
    rw [hR] at hu
    obtain ⟨hw, rfl, q, q4, rfl⟩ := hu
    have hz : ¬ (ftM σ q w pl).1 103 42 = 0 := by rw [ftM_f]; exact hw
    refine ⟨fun y => absurd y (by decide), fun _ => ⟨fun _ => ⟨fun y => absurd y (by decide), fun _ => ⟨fun y => absurd y (by decide), fun _ => ?_⟩⟩, fun y => absurd y (by decide)⟩⟩
    refine c_fails.mono fun x σ3 hx => ?_
    obtain ⟨rfl, rfl⟩ := Qv_s hx
    rw [flM_z hz]
    exact ⟨hw, trivial, q, q4, rfl⟩
