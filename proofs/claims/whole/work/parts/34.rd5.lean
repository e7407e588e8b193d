/-! A BYTE THAT MUST BE THERE -/
/-- this byte, or a fault at its place -/
def rX (v : Int32) (t : Nat → UInt8) (e p : Nat) : Rr Unit := if p < e ∧ bI (t p) = v then .inl ((), p + 1) else .inr (-1, nI (if p < e then p else e))
theorem c_expect {d n e p : Nat} {v : Int32} {t : Nat → UInt8} {σ : fkS} (h : RX t n e p σ) (hf : σ.1 46 3 = 0) : Dv (d + 1) 21 [.ref 46, .int v] σ (fun σ' => XR (rX v t e p) (fun _ _ => True) (fun _ => True) σ () σ') := by
  obtain ⟨h1, h2, h3, h4, h5, h6, h7, -⟩ := id h
  have hmin : (if (σ.1 46 2) < (σ.1 46 1) then (σ.1 46 2) else (σ.1 46 1)) = nI (if p < e then p else e) := by
    rw [h5, h6]
    by_cases y : e < p
    · rw [if_pos ((nI_ltI (by omega) (by omega)).mpr y), if_neg (by omega)]
    · rw [if_neg (fun z => y ((nI_ltI (by omega) (by omega)).mp z))]
      by_cases y2 : p < e
      · rw [if_pos y2]
      · rw [if_neg y2]
        congr 1
        omega
  have fl : ¬ (p < e ∧ bI (t p) = v) → Dv d 22 [.ref 46, .int (-1 : Int32), .int (if (σ.1 46 2) < (σ.1 46 1) then (σ.1 46 2) else (σ.1 46 1))] σ (fun σ1 => (sW σ1 σ).2.2 = σ.2.2 ∧ XR (rX v t e p) (fun _ _ => True) (fun _ => True) σ () (sW σ1 σ)) := by
    intro hn
    refine c_fail.mono fun x σ1 hx => ?_
    obtain ⟨rfl, e1, rfl⟩ := Qv_s hx
    refine ⟨e1, ?_⟩
    simp only [sW_eq e1]
    refine ⟨e1, ?_⟩
    unfold rX
    rw [if_neg hn]
    exact ⟨by decide, trivial, p, h7, by rw [hmin]; exact flX_00 h hf⟩
  refine S_Scan_expect h1 ⟨fun z => ?_, fun z => ?_⟩
  · rw [h5, h6] at z
    exact fl fun y => absurd z (nI_ge y.1 (by omega))
  · rw [h5, h6] at z
    have hz : p < e := Nat.not_le.mp fun y => z (nI_le y (by omega))
    have hb : (σ.1 25 ((σ.1 46 1).toNatClampNeg)) &&& (255 : Int32) = bI (t p) := by
      rw [h6, nI_clamp (by omega), h2 p (by omega)]
      exact bI_X _
    refine ⟨by decide, by rw [h6]; exact vp_in_nI (by omega) (by decide), fun y => ?_, fun y => ?_⟩
    · rw [hb] at y
      rw [h6, show nI p + 1 = nI (p + 1) from nI_1 p]
      refine ⟨rfl, ?_⟩
      unfold rX
      rw [if_pos ⟨hz, y⟩]
      exact ⟨trivial, by omega, rfl⟩
    · rw [hb] at y
      exact fl fun y2 => y y2.2
theorem c_must {d b n e p : Nat} {v : Int32} {t : Nat → UInt8} {σ : fkS} (h : RM t b n e p σ) (hf : σ.1 103 42 = 0) : Cv (d + 3) 241 [.ref 103, .int v] σ (fun σ' => MR (rX v t e p) (fun _ _ => True) (fun _ => True) σ () σ') := by
  have hp := h.2.2.2.2.2.2.1
  have key : Ci (d + 2) 242 [.ref 103, .int v, .int v] σ (fun _ σ' => MR (rX v t e p) (fun _ _ => True) (fun _ => True) σ () σ') := by
    refine S_M_either ((c_nextM (d := d) h hf).mono fun x σ1 hx => ?_)
    obtain ⟨r, rfl, hu⟩ := Qi_s hx
    unfold MR rN at hu
    by_cases hz : p < e
    · rw [if_pos hz] at hu
      obtain ⟨rfl, q4, rfl⟩ := hu
      refine ⟨fun y => ?_, fun y => ⟨fun y2 => absurd y2 y, fun _ => ?_⟩⟩
      · show MR (rX v t e p) (fun _ _ => True) (fun _ => True) σ () _
        unfold rX
        rw [if_pos ⟨hz, y⟩]
        exact ⟨trivial, q4, rfl⟩
      · refine c_fails.mono fun x σ3 hx => ?_
        obtain ⟨rfl, rfl⟩ := Qv_s hx
        show MR (rX v t e p) (fun _ _ => True) (fun _ => True) σ () _
        unfold rX
        rw [if_neg (fun z => y z.2), if_pos hz]
        exact ⟨by decide, trivial, p + 1, q4, by rw [hp]; exact flM_0 hf⟩
    · rw [if_neg hz] at hu
      obtain ⟨hw, rfl, q, q4, rfl⟩ := hu
      have hf2 : ¬ (ftM σ q (-1) (nI e)).1 103 42 = 0 := by rw [ftM_f]; exact hw
      have done : MR (rX v t e p) (fun _ _ => True) (fun _ => True) σ () (ftM σ q (-1) (nI e)) := by
        unfold rX
        rw [if_neg (fun z => hz z.1), if_neg hz]
        exact ⟨hw, trivial, q, q4, rfl⟩
      refine ⟨fun _ => done, fun _ => ⟨fun _ => done, fun _ => ?_⟩⟩
      refine c_fails.mono fun x σ3 hx => ?_
      obtain ⟨rfl, rfl⟩ := Qv_s hx
      rw [flM_z hf2]
      exact done
  refine S_M_must (key.mono fun x σ1 hx => ?_)
  obtain ⟨r, rfl, hu⟩ := Qi_s hx
  exact hu
