/-! A SIZE: what comes must lie within the end -/
def rZ (t : Nat → UInt8) (e p : Nat) : Rr Nat := match rU t e p with
  | .inl (v, q) => if v.toInt.toNat ≤ e - q then .inl (v.toInt.toNat, q) else .inr (-1, nI p)
  | .inr x => .inr x
theorem rZ_l {t : Nat → UInt8} {e p q B : Nat} (hB : B < 2 ^ 32) (hR : rU t e p = .inl (lN B, q)) : rZ t e p = if B ≤ e - q then .inl (B, q) else .inr (-1, nI p) := by
  unfold rZ
  rw [hR]
  have e1 : (lN B).toInt.toNat = B := by rw [pk_lT (by omega)]; rfl
  show (if (lN B).toInt.toNat ≤ e - q then (Sum.inl ((lN B).toInt.toNat, q) : Rr Nat) else _) = _
  rw [e1]
theorem rZ_r {t : Nat → UInt8} {e p : Nat} {x : Int32 × Int32} (hR : rU t e p = .inr x) : rZ t e p = .inr x := by
  unfold rZ
  rw [hR]
theorem nI_sub {a b : Nat} (h : b ≤ a) : nI a - nI b = nI (a - b) := by
  have e1 : nI a = nI (a - b) + nI b := by rw [nI_add, Nat.sub_add_cancel h]
  rw [e1, Int32.add_sub_cancel]
theorem sz_le {B e q : Nat} (hB : B < 2 ^ 32) (hq : q ≤ e) (he : e ≤ 4000) : (lg_cmp (lN B) ((nI e - nI q).toInt64)) ≤ 0 ↔ B ≤ e - q := by
  rw [lg_cmp_le, nI_sub hq, nI_l (by omega)]
  exact pk_lLE (by omega) (by omega)
theorem c_sizeOf {d b n e p : Nat} {t : Nat → UInt8} {σ : fkS} (h : RM t b n e p σ) (hf : σ.1 103 42 = 0) : Ci (d + 2) 245 [.ref 103] σ (fun r σ' => MR (rZ t e p) (fun B r => r = nI B) (fun r => r = 0) σ r σ') := by
  refine S_M_sizeOf ((c_uM (d := d) h hf).mono fun x σ1 hx => ?_)
  obtain ⟨v, rfl, hu⟩ := Qj_s hx
  have hp := h.2.2.2.2.2.2.1
  have he := h.2.2.2.2.2.1
  have h4 := h.2.2.2.1
  have h5 := h.2.2.2.2.1
  unfold MR at hu
  unfold Qj
  cases hR : rU t e p with
  | inl a =>
    obtain ⟨a, q⟩ := a
    obtain ⟨B, hB, rfl, hq1, hq2⟩ := rU_nat hR
    rw [rZ_l hB hR]
    rw [hR] at hu
    obtain ⟨rfl, q4, rfl⟩ := hu
    have e1 : (okM σ q).1 103 41 - (okM σ q).1 103 40 = nI e - nI q := by
      unfold okM
      rw [sI_so (by decide : (41 : Nat) ≠ 40), sI_ss, he]
    simp only [e1]
    refine ⟨fun y => ⟨fun _ => ?_, fun z => absurd ((okM_f σ q).trans hf) z⟩, fun y => ?_⟩
    · rw [if_pos ((sz_le hB hq2 (by omega)).mp y)]
      exact ⟨lN_i B, q4, rfl⟩
    · refine c_fails.mono fun x σ3 hx => ?_
      obtain ⟨rfl, rfl⟩ := Qv_s hx
      have e2 : flM (okM σ q) (-1) (σ.1 103 40) = ftM σ q (-1) (nI p) := by rw [hp]; exact flM_0 hf
      show (_ → _) ∧ (_ → _)
      rw [e2]
      refine ⟨fun z => absurd ((ftM_f σ q (-1) (nI p)).symm.trans z) (by decide), fun z => ?_⟩
      rw [if_neg (fun w => y ((sz_le hB hq2 (by omega)).mpr w))]
      exact ⟨by decide, rfl, q, q4, rfl⟩
  | inr a =>
    obtain ⟨w, pl⟩ := a
    rw [rZ_r hR]
    rw [hR] at hu
    obtain ⟨hw, rfl, q, q4, rfl⟩ := hu
    have hz : ¬ (ftM σ q w pl).1 103 42 = 0 := by rw [ftM_f]; exact hw
    refine ⟨fun y => ⟨fun z => absurd z hz, fun z => ⟨hw, rfl, q, q4, rfl⟩⟩, fun y => ?_⟩
    refine c_fails.mono fun x σ3 hx => ?_
    obtain ⟨rfl, rfl⟩ := Qv_s hx
    rw [flM_z hz]
    exact ⟨fun z => absurd z hz, fun z => ⟨hw, rfl, q, q4, rfl⟩⟩
/-- the class sets its end by the size -/
def nX (R : Rr Nat) (e : Nat) (σ σ' : fkS) : Prop := match R with
  | .inl (B, q) => q + B ≤ e ∧ σ' = sI (okX σ q) 46 2 (nI (q + B))
  | .inr (w, pl) => w ≠ 0 ∧ ∃ q, q ≤ 4000 ∧ σ' = ftX σ q w pl
theorem c_narrow {d n e p : Nat} {t : Nat → UInt8} {σ : fkS} (h : RX t n e p σ) (hf : σ.1 46 3 = 0) : Dv (d + 2) 25 [.ref 46] σ (fun σ' => nX (rZ t e p) e σ σ') := by
  refine S_Scan_narrow ((c_uX (d := d) h hf).mono fun x σ1 hx => ?_)
  obtain ⟨v, rfl, hr, hu⟩ := Qj_s hx
  refine ⟨hr, ?_⟩
  simp only [sW_eq hr]
  obtain ⟨h1, h2, h3, h4, h5, h6, h7, -⟩ := id h
  unfold XR at hu
  cases hR : rU t e p with
  | inl a =>
    obtain ⟨a, q⟩ := a
    obtain ⟨B, hB, rfl, hq1, hq2⟩ := rU_nat hR
    rw [rZ_l hB hR]
    rw [hR] at hu
    obtain ⟨rfl, q4, rfl⟩ := hu
    have e1 : (okX σ q).1 46 2 - (okX σ q).1 46 1 = nI e - nI q := by
      unfold okX
      rw [sI_so (by decide : (2 : Nat) ≠ 1), sI_ss, h5]
    have e3 : (okX σ q).1 46 1 + (lN B).toInt32 = nI (q + B) := by
      unfold okX
      rw [sI_ss, lN_i, nI_add]
    simp only [e1, e3]
    refine ⟨fun y => ⟨fun z => absurd ((okX_f σ q).trans hf) z, fun _ => ⟨hr, ?_⟩⟩, fun y => ?_⟩
    · have y1 := (sz_le hB hq2 (by omega)).mp y
      rw [if_pos y1]
      exact ⟨by omega, rfl⟩
    · refine c_fail.mono fun x σ3 hx => ?_
      obtain ⟨rfl, g3, rfl⟩ := Qv_s hx
      refine ⟨g3, ?_⟩
      have e2 : flX (okX σ q) (-1) (σ.1 46 1) = ftX σ q (-1) (nI p) := by rw [h6]; exact flX_0 hf
      simp only [sW_eq (g3.trans hr)]
      rw [e2]
      refine ⟨hr, ?_⟩
      rw [if_neg (fun w => y ((sz_le hB hq2 (by omega)).mpr w))]
      exact ⟨by decide, q, q4, rfl⟩
  | inr a =>
    obtain ⟨w, pl⟩ := a
    rw [rZ_r hR]
    rw [hR] at hu
    obtain ⟨hw, rfl, q, q4, rfl⟩ := hu
    have hz : ¬ (ftX σ q w pl).1 46 3 = 0 := by rw [ftX_f]; exact hw
    refine ⟨fun y => ⟨fun z => ⟨hr, hw, q, q4, rfl⟩, fun z => absurd z hz⟩, fun y => ?_⟩
    refine c_fail.mono fun x σ3 hx => ?_
    obtain ⟨rfl, g3, rfl⟩ := Qv_s hx
    refine ⟨g3, ?_⟩
    simp only [sW_eq (g3.trans hr)]
    rw [flX_z hz]
    exact ⟨hr, hw, q, q4, rfl⟩
