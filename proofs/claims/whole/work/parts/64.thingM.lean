/-! TYPES, LIMITS: the reference -/
section THM
variable {t : Nat → UInt8} {b n e p d : Nat} {σ : fkS}
def p01 (t : Nat → UInt8) (e p : Nat) : Rr Nat := bR (nN t e p) fun v q => if v ≤ 1 then .inl (v, q) else .inr (-1, nI p)
theorem m01 (h : RM t b n e p σ) (hf : σ.1 103 42 = 0) : Ci (d + 2) 242 [.ref 103, .int (0 : Int32), .int (1 : Int32)] σ (fun r σ' => YMI t b n e fM (fun B r _ => r = nI B) (p01 t e p) σ r σ') := by
  have hp1 : σ.1 103 40 = nI p := h.2.2.2.2.2.2.1
  refine S_M_either ?_
  rw [hp1]
  refine qI h hf (mN h hf) (fun v q r hR hv hR1 hf1 => ?_) fun w pl r σ1 hR hr0 hZ f1 => ?_
  · subst hv
    have hv8 : v < 256 := by have := (nN_l hR).2.1; have := (t p).toNat_lt; omega
    have hp : p01 t e p = if v ≤ 1 then .inl (v, q) else .inr (-1, nI p) := by unfold p01; rw [hR]; rfl
    have ok : v ≤ 1 → YMI t b n e fM (fun B r _ => r = nI B) (p01 t e p) σ (nI v) (okM σ q) := by
      intro hv1
      refine ⟨okM_fr, ?_⟩
      rw [hp, if_pos hv1]
      exact ⟨rfl, hR1, hf1⟩
    refine ⟨fun z => ok ?_, fun z0 => ⟨fun z => ok ?_, fun z1 => ?_⟩⟩
    · have := (op_nat hv8 (b := 0) (by decide) rfl).mp z
      omega
    · have := (op_nat hv8 (b := 1) (by decide) rfl).mp z
      omega
    · have h0 : v ≠ 0 := fun y => z0 (by rw [y]; rfl)
      have h1 : v ≠ 1 := fun y => z1 (by rw [y]; rfl)
      refine qFails hR1 hf1 (by decide) fun σ2 hZ f2 => ?_
      refine ⟨okM_fr.tr f2, ?_⟩
      rw [hp, if_neg (by omega)]
      exact hZ
  · subst hr0
    have fin : YMI t b n e fM (fun B r _ => r = nI B) (p01 t e p) σ 0 σ1 := by
      refine ⟨f1, ?_⟩
      unfold p01
      rw [hR]
      exact hZ
    exact ⟨fun _ => fin, fun z => absurd rfl z⟩
theorem m01z {x y : Int32} {w pl : Int32} (h : ZM t b n e w pl σ) : Ci (d + 2) 242 [.ref 103, .int x, .int y] σ (fun r σ' => r = 0 ∧ σ' = σ) := by
  refine S_M_either (y0I (c_nextMz (d := d) h.nz) ⟨fun _ => ⟨rfl, rfl⟩, fun _ => ⟨fun _ => ⟨rfl, rfl⟩, fun _ => yFails h ⟨rfl, rfl⟩⟩⟩)
/-! TYPES -/
def rTM (t : Nat → UInt8) (X : Nat) (x : Ty) (σ : fkS) : Prop := σ.1 107 X = nI x.2.1 ∧ (∀ j, j < x.2.1 → σ.1 108 (60 * X + j) = nI (t (x.1 + j)).toNat) ∧ σ.1 109 X = nI x.2.2
def sTM (X c j : Nat) : Bool := fM c j || (Nat.beq c 107 && Nat.beq j X) || (Nat.beq c 108 && bk 60 X j) || (Nat.beq c 109 && Nat.beq j X)
theorem beq_refl' (a : Nat) : Nat.beq a a = true := by simp
theorem Fr.fTM {X : Nat} {σ σ' : fkS} (h : Fr fM σ σ') : Fr (sTM X) σ σ' := h.mono fun c j h => by unfold sTM; rw [h]; rfl
theorem sTM7 (X : Nat) : sTM X 107 X = true := by unfold sTM; simp
theorem sTM8 (X : Nat) {j : Nat} (hj : j < 60) : sTM X 108 (60 * X + j) = true := by unfold sTM; rw [bk_in hj]; simp
theorem sTM9 (X : Nat) : sTM X 109 X = true := by unfold sTM; simp
theorem w_tM77z {X : Nat} {w pl v3 : Int32} (hX : X < 120) (h : ZM t b n e w pl σ) : Wq 252 (d + 4) 77 [some (.ref 103), some (.int (nI X)), none, some (.int v3)] [] σ (Qv fun σ' => Fr (sTM X) σ σ' ∧ ZM t b n e w pl σ') := by
  refine S_M_type_77 ⟨fun _ => ?_, fun z => absurd z h.nz⟩
  rw [nI_clamp (by omega)]
  exact ⟨vp_in_nI hX (by decide), Fr.rf.sI (sTM9 X), h.sI (ew rfl)⟩
theorem w_tM18z {X : Nat} {w pl : Int32} {v2 : Int32} (hX : X < 120) (h : ZM t b n e w pl σ) : Wq 252 (d + 4) 18 [some (.ref 103), some (.int (nI X)), some (.int v2), none] [] σ (Qv fun σ' => Fr (sTM X) σ σ' ∧ ZM t b n e w pl σ') := by
  have go : Ci (d + 3) 250 [.ref 103] σ (fun x2 σ1 => ((x2 ≤ (1 : Int32) → Wq 252 (d + 4) 77 [some (.ref 103), some (.int (nI X)), none, some (.int x2)] [] σ1 (Qv fun σ' => Fr (sTM X) σ σ' ∧ ZM t b n e w pl σ')) ∧ (¬ x2 ≤ (1 : Int32) → (Cv (d + 3) 244 [.ref 103, .int (-1 : Int32), .int (σ.1 103 40)] σ1 (fun σ3 => Wq 252 (d + 4) 77 [some (.ref 103), some (.int (nI X)), none, some (.int x2)] [] σ3 (Qv fun σ' => Fr (sTM X) σ σ' ∧ ZM t b n e w pl σ')))))) := by
    refine y0I (c_manyz (d := d + 1) h.nz) ⟨fun _ => w_tM77z hX h, fun z => absurd (by decide) z⟩
  exact S_M_type_18 ⟨vp_in_nI hX (by decide), fun _ => go, fun _ => ⟨fun _ => go, fun z => absurd z h.nz⟩⟩
theorem w_tM77 {X p2 m p3 p4 v : Nat} (hX : X < 120) (h : RM t b n e p4 σ) (hf : σ.1 103 42 = 0) (h7 : σ.1 107 X = nI m) (h8 : ∀ j, j < m → σ.1 108 (60 * X + j) = nI (t (p2 + j)).toNat) (hv : v ≤ 1) : Wq 252 (d + 4) 77 [some (.ref 103), some (.int (nI X)), none, some (.int (nI v))] [] σ (Qv fun σ' => YM t b n e (sTM X) (rTM t X) (pTy4 t e p2 m p3 p4 v) σ σ') := by
  have hin : vp_in (nI X) 120 := vp_in_nI hX (by decide)
  refine S_M_type_77 ⟨fun z => absurd hf z, fun _ => ?_⟩
  rw [nI_clamp (by omega)]
  refine ⟨fun z => ⟨hin, Fr.rf.sI (sTM9 X), ?_⟩, fun z => ?_⟩
  · have hv0 : v ≠ 1 := fun y => z (by rw [y]; rfl)
    unfold pTy4
    rw [if_pos hv, if_neg hv0]
    exact ⟨⟨h7, h8, sI_ss⟩, h.sI (ew rfl), g0_sI hf rfl⟩
  · have hv1 : v = 1 := (nI_eq (b := 1) (by omega) (by decide)).mp z
    unfold pTy4
    rw [if_pos hv, if_pos hv1]
    refine qI h hf (mT h hf) (fun g q r hR hg hR1 hf1 => ?_) fun w pl r σ1 hR _ hZ f1 => ?_
    · subst hg
      refine ⟨hin, okM_fr.fTM.sI (sTM9 X), ?_⟩
      rw [hR]
      exact ⟨⟨h7, h8, sI_ss⟩, hR1.sI (ew rfl), g0_sI hf1 rfl⟩
    · refine ⟨hin, f1.fTM.sI (sTM9 X), ?_⟩
      rw [hR]
      exact hZ.sI (ew rfl)
theorem w_tM18 {X p2 m : Nat} (hX : X < 120) (hm : m ≤ 60) : ∀ (k i p3 : Nat) (σ : fkS), i + k = m → p3 = p2 + i → RM t b n e p3 σ → σ.1 103 42 = 0 → σ.1 107 X = nI m → (∀ j, j < i → σ.1 108 (60 * X + j) = nI (t (p2 + j)).toNat) → Wq 252 (d + 4) 18 [some (.ref 103), some (.int (nI X)), some (.int (nI i)), none] [] σ (Qv fun σ' => YM t b n e (sTM X) (rTM t X) (bR (pTs t e k p3) fun _ p3 => pTy3 t e p2 m p3) σ σ')
  | 0, i, p3, σ, hi, hp3, h, hf, h7, h8 => by
    have him : i = m := by omega
    refine S_M_type_18 ⟨vp_in_nI hX (by decide), fun _ => ?_, fun z => absurd (by rw [nI_clamp (by omega), h7]; exact nI_le (by omega) (by omega)) z⟩
    show Ci _ _ _ _ _
    have hp : bR (pTs t e 0 p3) (fun _ p3 => pTy3 t e p2 m p3) = pTy3 t e p2 m p3 := rfl
    rw [hp]
    refine qI h hf (mV h hf) (fun v q r hR hv hR1 hf1 => ?_) fun w pl r σ1 hR hr0 hZ f1 => ?_
    · subst hv
      obtain ⟨-, hv60, -, -⟩ := nV_l hR
      have hp3' : pTy3 t e p2 m p3 = pTy4 t e p2 m p3 q v := by unfold pTy3; rw [hR]; rfl
      rw [hp3']
      refine ⟨fun z => ?_, fun z => ?_⟩
      · have hv1 : v ≤ 1 := (nI_leI (b := 1) (by omega) (by decide)).mp z
        refine (w_tM77 (d := d) (p2 := p2) (m := m) (p3 := p3) hX hR1 hf1 h7 (fun j hj => h8 j (by omega)) hv1).mono fun x σ2 hx => ?_
        obtain ⟨rfl, f2, hu⟩ := Qv_s hx
        exact ⟨okM_fr.fTM.tr f2, hu⟩
      · have hv1 : ¬ v ≤ 1 := fun y => z ((nI_leI (b := 1) (by omega) (by decide)).mpr y)
        refine qFails hR1 hf1 (by decide) fun σ2 hZ f2 => ?_
        refine (w_tM77z (d := d) hX hZ).mono fun x σ3 hx => ?_
        obtain ⟨rfl, f3, hu⟩ := Qv_s hx
        refine ⟨okM_fr.fTM.tr (f2.fTM.tr f3), ?_⟩
        unfold pTy4
        rw [if_neg hv1]
        have hp : σ.1 103 40 = nI p3 := h.2.2.2.2.2.2.1
        rw [← hp]
        exact hu
    · subst hr0
      refine ⟨fun _ => ?_, fun z => absurd (by decide) z⟩
      refine (w_tM77z (d := d) hX hZ).mono fun x σ3 hx => ?_
      obtain ⟨rfl, f3, hu⟩ := Qv_s hx
      refine ⟨f1.fTM.tr f3, ?_⟩
      unfold pTy3
      rw [hR]
      exact hu
  | k + 1, i, p3, σ, hi, hp3, h, hf, h7, h8 => by
    refine S_M_type_18 ⟨vp_in_nI hX (by decide), fun z => absurd (by rw [nI_clamp (by omega), h7] at z; exact z) (nI_ge (by omega) (by omega)), fun _ => ⟨fun z => absurd hf z, fun _ => ?_⟩⟩
    have e8 : (60 : Int32) * nI X + nI i = nI (60 * X + i) := by rw [show (60 : Int32) = nI 60 from rfl, nI_mul, nI_add]
    rw [e8, nI_clamp (by omega)]
    refine qI h hf (mT h hf) (fun g q r hR hg hR1 hf1 => ?_) fun w pl r σ1 hR _ hZ f1 => ?_
    · subst hg
      obtain ⟨-, -, hgt, hq, -⟩ := nT_l hR
      refine ⟨vp_in_nI (by omega) (by decide), ?_⟩
      have ih := w_tM18 (p2 := p2) hX hm k (i + 1) q (sI (okM σ q) 108 (60 * X + i) (nI g)) (by omega) (by omega) (hR1.sI (ew rfl)) (g0_sI hf1 rfl) h7 (fun j hj => by
        rw [sI3]
        by_cases hji : j = i
        · subst hji
          rw [if_pos rfl, hgt, hp3]
        · rw [if_neg (by omega)]
          exact h8 j (by omega))
      rw [show nI (i + 1) = nI i + 1 from nI_succ i] at ih
      refine ih.mono fun x σ2 hx => ?_
      obtain ⟨rfl, f2, hu⟩ := Qv_s hx
      refine ⟨(okM_fr.fTM.sI (sTM8 X (by omega))).tr f2, ?_⟩
      have hb : bR (pTs t e (k + 1) p3) (fun _ p3 => pTy3 t e p2 m p3) = bR (pTs t e k q) fun _ p3 => pTy3 t e p2 m p3 := by
        rw [pTs, hR]
        rfl
      rw [hb]
      exact hu
    · refine ⟨vp_in_nI (by omega) (by decide), ?_⟩
      have hZ2 : ∀ v, ZM t b n e w pl (sI σ1 108 (60 * X + i) v) := fun v => hZ.sI (ew rfl)
      refine (w_tM18z (d := d) hX (hZ2 r)).mono fun x σ2 hx => ?_
      obtain ⟨rfl, f2, hu⟩ := Qv_s hx
      refine ⟨(f1.fTM.sI (sTM8 X (by omega))).tr f2, ?_⟩
      have hb : bR (pTs t e (k + 1) p3) (fun _ p3 => pTy3 t e p2 m p3) = .inr (w, pl) := by
        rw [pTs, hR]
        rfl
      rw [hb]
      exact hu
theorem m_type {X : Nat} (hX : X < 120) (h : RM t b n e p σ) (hf : σ.1 103 42 = 0) : Cv (d + 4) 252 [.ref 103, .int (nI X)] σ (fun σ' => YM t b n e (sTM X) (rTM t X) (pTy t e p) σ σ') := by
  refine S_M_type ?_
  rw [nI_clamp (by omega)]
  have hin : vp_in (nI X) 120 := vp_in_nI hX (by decide)
  have zend : ∀ (w pl : Int32) (σ1 : fkS), pTy t e p = .inr (w, pl) → ZM t b n e w pl σ1 → Fr fM σ σ1 → Wq 252 (d + 4) 18 [some (.ref 103), some (.int (nI X)), some (.int (0 : Int32)), none] [] (sI σ1 107 X 0) (Qv fun σ' => YM t b n e (sTM X) (rTM t X) (pTy t e p) σ σ') := by
    intro w pl σ1 hp hZ f1
    refine (w_tM18z (d := d) hX (hZ.sI (ew rfl))).mono fun x σ2 hx => ?_
    obtain ⟨rfl, f2, hu⟩ := Qv_s hx
    refine ⟨(f1.fTM.sI (sTM7 X)).tr f2, ?_⟩
    rw [hp]
    exact hu
  refine qV h hf (c_must (d := d) h hf) (fun _ q hR hR1 hf1 => ?_) fun w pl σ1 hR hZ f1 => ?_
  · refine qI hR1 hf1 (mV hR1 hf1) (fun m q2 r hR2 hv hR3 hf3 => ?_) fun w pl r σ2 hR2 hr0 hZ f2 => ?_
    · subst hv
      obtain ⟨-, hm, -, -⟩ := nV_l hR2
      rw [okM_ok] at hR3 hf3 ⊢
      refine ⟨hin, ?_⟩
      refine (w_tM18 (d := d) (p2 := q2) (m := m) hX hm m 0 q2 (sI (okM σ q2) 107 X (nI m)) (Nat.zero_add _) rfl (hR3.sI (ew rfl)) (g0_sI hf3 rfl) sI_ss (fun j hj => absurd hj (Nat.not_lt_zero _))).mono fun x σ2 hx => ?_
      obtain ⟨rfl, f2, hu⟩ := Qv_s hx
      refine ⟨(okM_fr.fTM.sI (sTM7 X)).tr f2, ?_⟩
      have hb : pTy t e p = bR (pTs t e m q2) fun _ p3 => pTy3 t e q2 m p3 := by
        unfold pTy
        rw [hR]
        show bR (nV t e q) _ = _
        rw [hR2]
        rfl
      rw [hb]
      exact hu
    · subst hr0
      refine ⟨hin, zend w pl σ2 ?_ hZ (okM_fr.tr f2)⟩
      unfold pTy
      rw [hR]
      show bR (nV t e q) _ = _
      rw [hR2]
      rfl
  · refine y0I (c_manyz (d := d + 1) hZ.nz) ⟨hin, zend w pl σ1 ?_ hZ f1⟩
    unfold pTy
    rw [hR]
    rfl
end THM
