/-! BEHIND A FAULT: expect, narrow, sizeOf, must -/
theorem c_failz {d n e p : Nat} {t : Nat → UInt8} {σ : fkS} {w pl : Int32} (h : RX t n e p σ) (hf : ¬ σ.1 46 3 = 0) : Dv d 22 [.ref 46, .int w, .int pl] σ (fun σ1 => (sW σ1 σ).2.2 = σ.2.2 ∧ ∃ q, q ≤ 4000 ∧ sW σ1 σ = okX σ q) := by
  refine c_fail.mono fun x σ3 hx => ?_
  obtain ⟨rfl, h3, rfl⟩ := Qv_s hx
  refine ⟨h3, ?_⟩
  simp only [sW_eq h3]
  exact ⟨h3, p, h.2.2.2.2.2.2.1, by rw [flX_z hf, okX_id h]⟩
theorem c_expectz {d n e p : Nat} {v : Int32} {t : Nat → UInt8} {σ : fkS} (h : RX t n e p σ) (hf : ¬ σ.1 46 3 = 0) : Dv (d + 1) 21 [.ref 46, .int v] σ (fun σ' => ∃ q, q ≤ 4000 ∧ σ' = okX σ q) := by
  obtain ⟨h1, h2, h3, h4, h5, h6, h7, -⟩ := id h
  refine S_Scan_expect h1 ⟨fun _ => c_failz h hf, fun z => ?_⟩
  rw [h5, h6] at z
  have hz : p < e := Nat.not_le.mp fun y => z (nI_le y (by omega))
  refine ⟨by decide, by rw [h6]; exact vp_in_nI (by omega) (by decide), fun y => ?_, fun y => c_failz h hf⟩
  rw [h6, show nI p + 1 = nI (p + 1) from nI_1 p]
  exact ⟨rfl, p + 1, by omega, rfl⟩
theorem c_narrowz {d n e p : Nat} {t : Nat → UInt8} {σ : fkS} (h : RX t n e p σ) (hf : ¬ σ.1 46 3 = 0) : Dv (d + 2) 25 [.ref 46] σ (fun σ' => ∃ q, q ≤ 4000 ∧ σ' = okX σ q) := by
  refine S_Scan_narrow ((c_uXz (d := d) h hf).mono fun x σ1 hx => ?_)
  obtain ⟨v, rfl, hr, q, q4, rfl⟩ := Qj_s hx
  refine ⟨hr, ?_⟩
  simp only [sW_eq hr]
  have hz : ¬ (okX σ q).1 46 3 = 0 := by rw [okX_f]; exact hf
  refine ⟨fun _ => ⟨fun _ => ⟨hr, q, q4, rfl⟩, fun z => absurd z hz⟩, fun _ => ?_⟩
  refine c_fail.mono fun x σ3 hx => ?_
  obtain ⟨rfl, g3, rfl⟩ := Qv_s hx
  refine ⟨g3, ?_⟩
  simp only [sW_eq (g3.trans hr)]
  rw [flX_z hz]
  exact ⟨hr, q, q4, rfl⟩
theorem c_mustz {d : Nat} {v : Int32} {σ : fkS} (hf : ¬ σ.1 103 42 = 0) : Cv (d + 3) 241 [.ref 103, .int v] σ (fun σ' => σ' = σ) := by
  refine S_M_must (Cl.mono (Q := Qi fun _ σ' => σ' = σ) ?_ fun x σ1 hx => ?_)
  · refine S_M_either ((c_nextMz (d := d) hf).mono fun x σ1 hx => ?_)
    obtain ⟨r, rfl, rfl, rfl⟩ := Qi_s hx
    refine ⟨fun _ => rfl, fun _ => ⟨fun _ => rfl, fun _ => ?_⟩⟩
    refine c_fails.mono fun x σ3 hx => ?_
    obtain ⟨rfl, rfl⟩ := Qv_s hx
    exact flM_z hf
  · obtain ⟨r, rfl, hu⟩ := Qi_s hx
    exact hu
