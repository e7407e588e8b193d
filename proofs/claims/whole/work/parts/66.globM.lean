/-! GLOBALS, EXPORTS: the reference -/
theorem pGl_01 (t : Nat → UInt8) (e p : Nat) : pGl t e p = bR (nT t e p) fun ty p1 => bR (p01 t e p1) fun st p2 => pGl3 t e ty st p2 := by
  unfold pGl p01
  cases nT t e p with
  | inl y =>
    obtain ⟨v, q⟩ := y
    simp only [bR]
    cases nN t e q with
    | inl y =>
      obtain ⟨v, q2⟩ := y
      simp only
      split <;> rfl
    | inr y => rfl
  | inr y => rfl
section GLM
variable {t : Nat → UInt8} {b n e p d : Nat} {σ : fkS}
theorem ex {b k : Nat} : ((60 : Int32) * nI b) + nI k = nI (60 * b + k) := by rw [show (60 : Int32) = nI 60 from rfl, nI_mul, nI_add]
def rGM (X : Nat) (x : Gl) (σ : fkS) : Prop := σ.1 126 X = nI x.1 ∧ σ.1 127 X = nI x.2.1 ∧ σ.1 128 X = nI x.2.2.1 ∧ σ.2.1 122 X = x.2.2.2
def sGM (X c j : Nat) : Bool := sCM c j || ((Nat.beq c 126 || Nat.beq c 127 || Nat.beq c 128 || Nat.beq c 122) && Nat.beq j X)
theorem Fr.cGM {X : Nat} {σ σ' : fkS} (h : Fr sCM σ σ') : Fr (sGM X) σ σ' := h.mono fun c j h => by unfold sGM; rw [h]; rfl
theorem sGMx (X : Nat) : sGM X 126 X = true ∧ sGM X 127 X = true ∧ sGM X 128 X = true ∧ sGM X 122 X = true := by unfold sGM; simp
theorem m_thing6 {k : Nat} (hk : k < 60) (h : RM t b n e p σ) (hf : σ.1 103 42 = 0) : Cv (d + 5) 251 [.ref 103, .int (6 : Int32), .int (nI k)] σ (fun σ' => YM t b n e (sGM (60 * b + k)) (rGM (60 * b + k)) (pGl t e p) σ σ') := by
  have hb := h.1
  have hX : 60 * b + k < 120 := by omega
  obtain ⟨s1, s2, s3, s4⟩ := sGMx (60 * b + k)
  have hin : vp_in (nI (60 * b + k)) 120 := vp_in_nI hX (by decide)
  refine S_M_thing ⟨fun z => absurd z (by decide), fun z => absurd z (by decide), fun z => absurd z (by decide), fun z => absurd z (by decide), fun z => absurd z (by decide), fun z => absurd z (by decide), fun _ => ?_, fun z => absurd z (by decide), fun z => absurd z (by decide), fun z => absurd z (by decide), trivial⟩
  rw [h.2.1, ex, nI_clamp (by omega)]
  refine qI h hf (mT h hf) (fun ty q r hR hv hR1 hf1 => ?_) fun w pl r σ1 hR _ hZ f1 => ?_
  · subst hv
    refine ⟨hin, ?_⟩
    have g1 : RM t b n e q (sI (okM σ q) 126 (60 * b + k) (nI ty)) := hR1.sI (ew rfl)
    have g2 : (sI (okM σ q) 126 (60 * b + k) (nI ty)).1 103 42 = 0 := g0_sI hf1 rfl
    refine qYI (m01 (d := d + 2) g1 g2) (fun st q2 r σ2 hR2 f2 hv hR3 hf3 => ?_) fun w pl r σ2 hR2 f2 hZ => ?_
    · subst hv
      refine ⟨hin, ?_⟩
      have g3 : RM t b n e q2 (sI σ2 127 (60 * b + k) (nI st)) := hR3.sI (ew rfl)
      have g4 : (sI σ2 127 (60 * b + k) (nI st)).1 103 42 = 0 := g0_sI hf3 rfl
      refine qYI (m_constant (d := d) g3 g4) (fun c q3 r σ3 hR4 f3 hv hR5 hf5 => ?_) fun w pl r σ3 hR4 f3 hZ => ?_
      · obtain ⟨rfl, hv⟩ := hv
        refine ⟨hin, hin, ?_⟩
        have fr : Fr (sGM (60 * b + k)) σ σ3 := (((okM_fr.fCM.cGM.sI s1).tr f2.fCM.cGM).sI s2).tr f3.cGM
        refine ⟨(fr.sI s3).sL s4, ?_⟩
        have hp : pGl t e p = .inl ((ty, st, c.1, c.2), q3) := by
          rw [pGl_01, hR]
          show bR (p01 t e q) _ = _
          rw [hR2]
          show pGl3 t e ty st q2 = _
          unfold pGl3
          rw [hR4]
          rfl
        rw [hp]
        refine ⟨⟨?_, ?_, ?_, ?_⟩, (hR5.sI (ew rfl)).sL, hf5⟩
        · show (sI σ3 128 (60 * b + k) (nI c.1)).1 126 (60 * b + k) = _
          rw [sI_o (by decide), (f3 126 _ rfl).1, sI_o (by decide), (f2 126 _ rfl).1, sI_ss]
        · show (sI σ3 128 (60 * b + k) (nI c.1)).1 127 (60 * b + k) = _
          rw [sI_o (by decide), (f3 127 _ rfl).1, sI_ss]
        · show (sI σ3 128 (60 * b + k) (nI c.1)).1 128 (60 * b + k) = nI c.1
          exact sI_ss
        · rw [sL_ss]
          exact hv
      · refine ⟨hin, hin, ?_⟩
        have fr : Fr (sGM (60 * b + k)) σ σ3 := (((okM_fr.fCM.cGM.sI s1).tr f2.fCM.cGM).sI s2).tr f3.cGM
        refine ⟨(fr.sI s3).sL s4, ?_⟩
        have hp : pGl t e p = .inr (w, pl) := by
          rw [pGl_01, hR]
          show bR (p01 t e q) _ = _
          rw [hR2]
          show pGl3 t e ty st q2 = _
          unfold pGl3
          rw [hR4]
          rfl
        rw [hp]
        exact (hZ.sI (ew rfl)).sL
    · refine ⟨hin, ?_⟩
      have hZ2 : ∀ v, ZM t b n e w pl (sI σ2 127 (60 * b + k) v) := fun v => hZ.sI (ew rfl)
      refine (m_constantz (d := d) (hZ2 r)).mono fun x σ3 hx => ?_
      obtain ⟨r3, rfl, f3, hZ3⟩ := Qi_s hx
      show _ ∧ _ ∧ _
      refine ⟨hin, hin, ?_⟩
      have fr : Fr (sGM (60 * b + k)) σ σ3 := (((okM_fr.fCM.cGM.sI s1).tr f2.fCM.cGM).sI s2).tr f3.cGM
      refine ⟨(fr.sI s3).sL s4, ?_⟩
      have hp : pGl t e p = .inr (w, pl) := by
        rw [pGl_01, hR]
        show bR (p01 t e q) _ = _
        rw [hR2]
        rfl
      rw [hp]
      exact (hZ3.sI (ew rfl)).sL
  · refine ⟨hin, ?_⟩
    have hZ1 : ∀ v, ZM t b n e w pl (sI σ1 126 (60 * b + k) v) := fun v => hZ.sI (ew rfl)
    refine y0I (m01z (d := d + 2) (hZ1 r)) ⟨hin, ?_⟩
    have hZ2 : ∀ v, ZM t b n e w pl (sI (sI σ1 126 (60 * b + k) r) 127 (60 * b + k) v) := fun v => (hZ1 r).sI (ew rfl)
    refine (m_constantz (d := d) (hZ2 0)).mono fun x σ3 hx => ?_
    obtain ⟨r3, rfl, f3, hZ3⟩ := Qi_s hx
    show _ ∧ _ ∧ _
    refine ⟨hin, hin, ?_⟩
    have fr : Fr (sGM (60 * b + k)) σ σ3 := ((f1.fCM.cGM.sI s1).sI s2).tr f3.cGM
    refine ⟨(fr.sI s3).sL s4, ?_⟩
    have hp : pGl t e p = .inr (w, pl) := by
      rw [pGl_01, hR]
      rfl
    rw [hp]
    exact (hZ3.sI (ew rfl)).sL
/-! names, exports -/
def sNM (c j : Nat) : Bool := fM c j || (Nat.beq c 103 && Nat.beq j 44)
theorem Fr.fNM {σ σ' : fkS} (h : Fr fM σ σ') : Fr sNM σ σ' := h.mono fun c j h => by unfold sNM; rw [h]; rfl
theorem e44 : ∀ a i, gM103 a i = true → ¬ (a = 103 ∧ i = 44) := by
  intro a i hg hz
  obtain ⟨rfl, rfl⟩ := hz
  cases hg
theorem m_name (h : RM t b n e p σ) (hf : σ.1 103 42 = 0) : Ci (d + 2) 249 [.ref 103] σ (fun r σ' => YMI t b n e sNM (fun a r σ' => r = nI a.2 ∧ σ'.1 103 44 = nI a.1) (pNm t e p) σ r σ') := by
  obtain ⟨h0, h1, h2, h3, h4, h5, h6, h7⟩ := id h
  refine S_M_nameOf ?_
  refine qJ h hf (mU h hf) (fun B q r hR hv hR1 hf1 => ?_) fun w pl r σ1 hR hr0 hZ f1 => ?_
  · subst hv
    obtain ⟨-, hB, hq1, hq2⟩ := nU_l hR
    have hp : pNm t e p = if B ≤ e - q then .inl ((q, B), q + B) else .inr (-1, nI e) := by unfold pNm; rw [hR]; rfl
    have e1 : (okM σ q).1 103 41 - (okM σ q).1 103 40 = nI e - nI q := by rw [hR1.2.2.2.2.2.1, hR1.2.2.2.2.2.2.1]
    refine ⟨fun _ => ?_, fun z => absurd hf1 z⟩
    rw [e1, hR1.2.2.2.2.2.1, hR1.2.2.2.2.2.2.1, lN_i, nI_add]
    refine ⟨fun y => ?_, fun y => ?_⟩
    · have y1 := (sz_le hB hq2 (by omega)).mp y
      rw [if_pos y1] at hp
      refine ⟨(okM_fr.fNM.sI rfl).sI rfl, ?_⟩
      rw [hp]
      have g1 : RM t b n e q (sI (okM σ q) 103 44 (nI q)) := hR1.sI e44
      refine ⟨⟨rfl, ?_⟩, g1.at (by omega), ?_⟩
      · rw [sI_so (by decide), sI_ss]
      · rw [sI_so (by decide), sI_so (by decide)]
        exact hf1
    · have y1 : ¬ B ≤ e - q := fun z => y ((sz_le hB hq2 (by omega)).mpr z)
      rw [if_neg y1] at hp
      refine qFails hR1 hf1 (by decide) fun σ2 hZ f2 => ⟨okM_fr.fNM.tr f2.fNM, ?_⟩
      rw [hp]
      exact hZ
  · subst hr0
    refine ⟨fun z => absurd z hZ.nz, fun _ => ⟨f1.fNM, ?_⟩⟩
    unfold pNm
    rw [hR]
    exact hZ
def rEM (X : Nat) (x : Ex) (σ : fkS) : Prop := σ.1 129 X = nI x.1 ∧ σ.1 130 X = nI x.2.1 ∧ σ.1 131 X = nI x.2.2.1 ∧ σ.2.1 123 X = lN x.2.2.2
def sEM (X c j : Nat) : Bool := sNM c j || ((Nat.beq c 129 || Nat.beq c 130 || Nat.beq c 131 || Nat.beq c 123) && Nat.beq j X)
theorem Fr.nEM {X : Nat} {σ σ' : fkS} (h : Fr sNM σ σ') : Fr (sEM X) σ σ' := h.mono fun c j h => by unfold sEM; rw [h]; rfl
theorem sEMx (X : Nat) : sEM X 129 X = true ∧ sEM X 130 X = true ∧ sEM X 131 X = true ∧ sEM X 123 X = true := by unfold sEM; simp
theorem m_exportOf {X : Nat} (hX : X < 120) (h : RM t b n e p σ) (hf : σ.1 103 42 = 0) {a : Nat × Nat} (h9 : σ.1 129 X = nI a.1) (h0 : σ.1 130 X = nI a.2) : Cv (d + 4) 259 [.ref 103, .int (nI X)] σ (fun σ' => YM t b n e (sEM X) (rEM X) (bR (nN t e p) fun k p2 => if k ≤ 3 then pEx3 t e a.1 a.2 k p2 else .inr (-1, nI p)) σ σ') := by
  obtain ⟨s1, s2, s3, s4⟩ := sEMx X
  have hin : vp_in (nI X) 120 := vp_in_nI hX (by decide)
  have hp1 : σ.1 103 40 = nI p := h.2.2.2.2.2.2.1
  refine S_M_exportOf ?_
  rw [hp1, nI_clamp (by omega)]
  refine qI h hf (mN h hf) (fun k q r hR hv hR1 hf1 => ?_) fun w pl r σ1 hR hr0 hZ f1 => ?_
  · subst hv
    have hk : k < 256 := by have := (nN_l hR).2.1; have := (t p).toNat_lt; omega
    rw [hR]
    simp only [bR, sI_ss]
    refine ⟨hin, hin, ?_⟩
    have g1 : RM t b n e q (sI (okM σ q) 131 X (nI k)) := hR1.sI (ew rfl)
    have g2 : (sI (okM σ q) 131 X (nI k)).1 103 42 = 0 := g0_sI hf1 rfl
    refine ⟨fun z => ?_, fun z => ?_⟩
    · have h1 : k ≤ 3 := (nI_leI (b := 3) (by omega) (by decide)).mp z
      rw [if_pos h1]
      refine qJ g1 g2 (mU g1 g2) (fun x q2 r hR2 hv hR3 hf3 => ?_) fun w pl r σ2 hR2 hr0 hZ f2 => ?_
      · subst hv
        refine ⟨hin, ((okM_fr.fNM.nEM.sI s3).tr okM_fr.fNM.nEM).sL s4, ?_⟩
        unfold pEx3
        rw [hR2]
        exact ⟨⟨h9, h0, (show (sI (okM σ q) 131 X (nI k)).1 131 X = nI k from sI_ss), sL_ss⟩, hR3.sL, hf3⟩
      · refine ⟨hin, ((okM_fr.fNM.nEM.sI s3).tr f2.fNM.nEM).sL s4, ?_⟩
        unfold pEx3
        rw [hR2]
        exact hZ.sL
    · have h1 : ¬ k ≤ 3 := fun y => z ((nI_leI (b := 3) (by omega) (by decide)).mpr y)
      rw [if_neg h1]
      refine qFails g1 g2 (by decide) fun σ2 hZ f2 => ?_
      refine y0J (c_u32_z (d := d + 2) hZ.nz) ⟨hin, ((okM_fr.fNM.nEM.sI s3).tr f2.fNM.nEM).sL s4, ?_⟩
      exact hZ.sL
  · subst hr0
    rw [hR]
    simp only [bR, sI_ss]
    refine ⟨hin, hin, ?_⟩
    have hZ1 : ZM t b n e w pl (sI σ1 131 X 0) := hZ.sI (ew rfl)
    refine ⟨fun _ => ?_, fun z => absurd (by decide) z⟩
    refine y0J (c_u32_z (d := d + 2) hZ1.nz) ⟨hin, (f1.fNM.nEM.sI s3).sL s4, ?_⟩
    exact hZ1.sL
theorem m_exportOfz {X : Nat} {w pl : Int32} (hX : X < 120) (h : ZM t b n e w pl σ) : Cv (d + 4) 259 [.ref 103, .int (nI X)] σ (fun σ' => Fr (sEM X) σ σ' ∧ ZM t b n e w pl σ') := by
  obtain ⟨s1, s2, s3, s4⟩ := sEMx X
  have hin : vp_in (nI X) 120 := vp_in_nI hX (by decide)
  refine S_M_exportOf ?_
  rw [nI_clamp (by omega)]
  refine y0I (c_nextMz (d := d + 2) h.nz) ⟨hin, hin, ?_⟩
  rw [sI_ss]
  have hZ1 : ZM t b n e w pl (sI σ 131 X 0) := h.sI (ew rfl)
  refine ⟨fun _ => ?_, fun z => absurd (by decide) z⟩
  exact y0J (c_u32_z (d := d + 2) hZ1.nz) ⟨hin, (Fr.rf.sI s3).sL s4, hZ1.sL⟩
theorem m_thing7 {k : Nat} (hk : k < 60) (h : RM t b n e p σ) (hf : σ.1 103 42 = 0) : Cv (d + 5) 251 [.ref 103, .int (7 : Int32), .int (nI k)] σ (fun σ' => YM t b n e (sEM (60 * b + k)) (rEM (60 * b + k)) (pEx t e p) σ σ') := by
  have hb := h.1
  have hX : 60 * b + k < 120 := by omega
  obtain ⟨s1, s2, s3, s4⟩ := sEMx (60 * b + k)
  have hin : vp_in (nI (60 * b + k)) 120 := vp_in_nI hX (by decide)
  refine S_M_thing ⟨fun z => absurd z (by decide), fun z => absurd z (by decide), fun z => absurd z (by decide), fun z => absurd z (by decide), fun z => absurd z (by decide), fun z => absurd z (by decide), fun z => absurd z (by decide), fun _ => ?_, fun z => absurd z (by decide), fun z => absurd z (by decide), trivial⟩
  rw [h.2.1, ex, nI_clamp (by omega)]
  refine qYI (m_name (d := d + 2) h hf) (fun a q r σ1 hR f1 hv hR1 hf1 => ?_) fun w pl r σ1 hR f1 hZ => ?_
  · obtain ⟨rfl, h44⟩ := hv
    rw [h44]
    refine ⟨hin, hin, ?_⟩
    refine qY (m_exportOf (d := d) (a := a) hX ((hR1.sI (ew rfl)).sI (ew rfl)) (g0_sI (g0_sI hf1 rfl) rfl) sI_ss (by rw [sI_o (by decide), sI_ss])) (fun x q2 σ2 hR2 f2 hv hR3 hf3 => ?_) fun w pl σ2 hR2 f2 hZ => ?_
    · refine ⟨((f1.nEM.sI s2).sI s1).tr f2, ?_⟩
      have hp : pEx t e p = .inl (x, q2) := by
        unfold pEx
        rw [hR]
        exact hR2
      rw [hp]
      exact ⟨hv, hR3, hf3⟩
    · refine ⟨((f1.nEM.sI s2).sI s1).tr f2, ?_⟩
      have hp : pEx t e p = .inr (w, pl) := by
        unfold pEx
        rw [hR]
        exact hR2
      rw [hp]
      exact hZ
  · refine ⟨hin, hin, ?_⟩
    have hZ1 : ∀ v1 v2, ZM t b n e w pl (sI (sI σ1 130 (60 * b + k) v1) 129 (60 * b + k) v2) := fun _ _ => (hZ.sI (ew rfl)).sI (ew rfl)
    refine (m_exportOfz (d := d) hX (hZ1 _ _)).mono fun x σ2 hx => ?_
    obtain ⟨rfl, f2, hZ2⟩ := Qv_s hx
    refine ⟨((f1.nEM.sI s2).sI s1).tr f2, ?_⟩
    have hp : pEx t e p = .inr (w, pl) := by
      unfold pEx
      rw [hR]
      rfl
    rw [hp]
    exact hZ2
end GLM
