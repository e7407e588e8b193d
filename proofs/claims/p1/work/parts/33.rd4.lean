/-! BEHIND A FAULT -/
theorem c_vecz {d n e p : Nat} {t : Nat → UInt8} {σ : fkS} (h : RX t n e p σ) (hf : ¬ σ.1 46 3 = 0) : Di (d + 2) 28 [.ref 46] σ (fun r σ' => r = 0 ∧ ∃ q, q ≤ 4000 ∧ σ' = okX σ q) := by
  refine S_Scan_vec ((c_uXz (d := d) h hf).mono fun x σ1 hx => ?_)
  obtain ⟨v, rfl, hr, q, q4, rfl⟩ := Qj_s hx
  refine ⟨hr, ?_⟩
  simp only [sW_eq hr]
  have hz : ¬ (okX σ q).1 46 3 = 0 := by rw [okX_f]; exact hf
  refine ⟨fun _ => ⟨fun _ => ⟨hr, rfl, q, q4, rfl⟩, fun z => absurd z hz⟩, fun _ => ?_⟩
  refine c_fail.mono fun x σ3 hx => ?_
  obtain ⟨rfl, h3, rfl⟩ := Qv_s hx
  refine ⟨h3, ?_⟩
  simp only [sW_eq (h3.trans hr)]
  rw [flX_z hz]
  exact ⟨fun _ => ⟨hr, rfl, q, q4, rfl⟩, fun z => absurd z hz⟩
theorem c_manyz {d : Nat} {σ : fkS} (hf : ¬ σ.1 103 42 = 0) : Ci (d + 2) 250 [.ref 103] σ (fun r σ' => r = 0 ∧ σ' = σ) := by
  refine S_M_many ((c_u32_z (d := d) hf).mono fun x σ1 hx => ?_)
  obtain ⟨v, rfl, rfl, rfl⟩ := Qj_s hx
  exact ⟨fun _ => ⟨fun z => absurd z hf, fun _ => ⟨rfl, rfl⟩⟩, fun y => absurd (by decide) y⟩
theorem c_valueTypez {d n e p : Nat} {t : Nat → UInt8} {σ : fkS} (h : RX t n e p σ) (hf : ¬ σ.1 46 3 = 0) : Di (d + 2) 30 [.ref 46] σ (fun _ σ' => ∃ q, q ≤ 4000 ∧ σ' = okX σ q) := by
  refine S_Scan_valueType ((c_nextz (d := d) h hf).mono fun x σ1 hx => ?_)
  obtain ⟨v, rfl, hr, q, q4, rfl⟩ := Qi_s hx
  refine ⟨hr, ?_⟩
  simp only [sW_eq hr]
  have hz : ¬ (okX σ q).1 46 3 = 0 := by rw [okX_f]; exact hf
  have fl : ∀ w : Int32, Dv (d + 1) 22 [.ref 46, .int w, .int (σ.1 46 1)] (okX σ q) (fun σ3 => (sW σ3 σ).2.2 = σ.2.2 ∧ ∃ q, q ≤ 4000 ∧ sW σ3 σ = okX σ q) := by
    intro w
    refine c_fail.mono fun x σ3 hx => ?_
    obtain ⟨rfl, h3, rfl⟩ := Qv_s hx
    refine ⟨h3, ?_⟩
    simp only [sW_eq (h3.trans hr)]
    exact ⟨h3.trans hr, q, q4, flX_z hz⟩
  exact ⟨fun _ => fl _, fun _ => ⟨fun _ => ⟨fun _ => ⟨hr, q, q4, rfl⟩, fun _ => ⟨fun _ => ⟨hr, q, q4, rfl⟩, fun _ => fl _⟩⟩, fun _ => fl _⟩⟩
theorem c_valueTypeMz {d : Nat} {σ : fkS} (hf : ¬ σ.1 103 42 = 0) : Ci (d + 2) 253 [.ref 103] σ (fun r σ' => r = 0 ∧ σ' = σ) := by
  refine S_M_valueType ((c_nextMz (d := d) hf).mono fun x σ1 hx => ?_)
  obtain ⟨v, rfl, rfl, rfl⟩ := Qi_s hx
  refine ⟨fun y => absurd y (by decide), fun _ => ⟨fun _ => ⟨fun y => absurd y (by decide), fun _ => ⟨fun y => absurd y (by decide), fun _ => ?_⟩⟩, fun y => absurd y (by decide)⟩⟩
  refine c_fails.mono fun x σ3 hx => ?_
  obtain ⟨rfl, rfl⟩ := Qv_s hx
  rw [flM_z hf]
  exact ⟨rfl, rfl⟩
