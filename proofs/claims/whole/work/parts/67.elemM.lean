/-! ELEMENTS: the reference -/
section ELM
variable {t : Nat → UInt8} {b n e p d : Nat} {σ : fkS}
def rFM (X : Nat) (l : List Nat) (σ : fkS) : Prop := ∀ (j y : Nat), l[j]? = some y → σ.2.1 125 (60 * X + j) = lN y
def rLM (X : Nat) (x : El) (σ : fkS) : Prop := σ.1 132 X = nI x.1 ∧ σ.2.1 124 X = (x.2.1 &&& (Int64.ofNat 4294967295)) ∧ σ.1 133 X = nI x.2.2.length ∧ rFM X x.2.2 σ
def sLM (X c j : Nat) : Bool := sCM c j || ((Nat.beq c 132 || Nat.beq c 124 || Nat.beq c 133) && Nat.beq j X) || (Nat.beq c 125 && bk 60 X j)
theorem Fr.cLM {X : Nat} {σ σ' : fkS} (h : Fr sCM σ σ') : Fr (sLM X) σ σ' := h.mono fun c j h => by unfold sLM; rw [h]; rfl
theorem sLMx (X : Nat) : sLM X 132 X = true ∧ sLM X 124 X = true ∧ sLM X 133 X = true := by unfold sLM; simp
theorem sLM5 (X : Nat) {j : Nat} (hj : j < 60) : sLM X 125 (60 * X + j) = true := by unfold sLM; rw [bk_in hj]; simp
def sFM (X c j : Nat) : Bool := fM c j || (Nat.beq c 125 && bk 60 X j)
theorem sFM5 (X : Nat) {j : Nat} (hj : j < 60) : sFM X 125 (60 * X + j) = true := by unfold sFM; rw [bk_in hj]; simp
theorem Fr.fFM {X : Nat} {σ σ' : fkS} (h : Fr fM σ σ') : Fr (sFM X) σ σ' := h.mono fun c j h => by unfold sFM; rw [h]; rfl
theorem Fr.FLM {X : Nat} {σ σ' : fkS} (h : Fr (sFM X) σ σ') : Fr (sLM X) σ σ' := h.mono fun c j h => by
  unfold sFM at h
  unfold sLM sCM
  simp only [Bool.or_eq_true, Bool.and_eq_true] at h ⊢
  grind
theorem w_eM56 {X m : Nat} (hX : X < 120) (hm : m ≤ 60) : ∀ (k i p : Nat) (L : List Nat) (σ : fkS), i + k = m → L.length = i → RM t b n e p σ → σ.1 103 42 = 0 → σ.1 133 X = nI m → rFM X L σ → Wq 260 (d + 5) 56 [some (.ref 103), some (.int (nI X)), none, some (.int (nI i))] [] σ (Qv fun σ' => YM t b n e (sFM X) (fun l σ' => rFM X (L ++ l) σ') (pFs t e k p) σ σ')
  | 0, i, p, L, σ, hi, hL, h, hf, h3, hr => by
    refine S_M_element_56 ⟨vp_in_nI hX (by decide), fun _ => ⟨Fr.rf, ?_⟩, fun z => absurd (by rw [nI_clamp (by omega), h3]; exact nI_le (by omega) (by omega)) z⟩
    rw [pFs]
    simp only [List.append_nil]
    exact ⟨hr, h, hf⟩
  | k + 1, i, p, L, σ, hi, hL, h, hf, h3, hr => by
    refine S_M_element_56 ⟨vp_in_nI hX (by decide), fun z => absurd (by rw [nI_clamp (by omega), h3] at z; exact z) (nI_ge (by omega) (by omega)), fun _ => ⟨fun z => absurd hf z, fun _ => ?_⟩⟩
    have e8 : (60 : Int32) * nI X + nI i = nI (60 * X + i) := by rw [show (60 : Int32) = nI 60 from rfl, nI_mul, nI_add]
    rw [e8, nI_clamp (by omega)]
    refine qJ h hf (mU h hf) (fun x q r hR hv hR1 hf1 => ?_) fun w pl r σ1 hR hr0 hZ f1 => ?_
    · subst hv
      refine ⟨vp_in_nI (by omega) (by decide), ?_⟩
      have hr2 : rFM X (L ++ [x]) (sL (okM σ q) 125 (60 * X + i) (lN x)) := by
        intro j y hy
        rw [sL3]
        rcases get_snoc hy with ⟨hy, hj⟩ | ⟨rfl, rfl⟩
        · rw [if_neg (by omega)]
          exact hr j y hy
        · rw [if_pos (by omega)]
      have ih := w_eM56 hX hm k (i + 1) q (L ++ [x]) (sL (okM σ q) 125 (60 * X + i) (lN x)) (by omega) (by rw [List.length_append, hL]; rfl) hR1.sL hf1 h3 hr2
      rw [show nI (i + 1) = nI i + 1 from nI_succ i] at ih
      refine ih.mono fun y σ2 hx => ?_
      obtain ⟨rfl, f2, hu⟩ := Qv_s hx
      refine ⟨(okM_fr.fFM.sL (sFM5 X (by omega))).tr f2, ?_⟩
      rw [pFs, hR]
      simp only [bR]
      cases hF : pFs t e k q with
      | inl y =>
        obtain ⟨l2, q2⟩ := y
        rw [hF] at hu
        simp only [List.append_assoc] at hu ⊢
        exact hu
      | inr y =>
        obtain ⟨w, pl⟩ := y
        rw [hF] at hu
        exact hu
    · subst hr0
      refine ⟨vp_in_nI (by omega) (by decide), ?_⟩
      have hZ1 : ZM t b n e w pl (sL σ1 125 (60 * X + i) 0) := hZ.sL
      have h31 : (sL σ1 125 (60 * X + i) 0).1 133 X = nI m := (f1 133 X rfl).1.trans h3
      have fin : (Qv fun σ' => YM t b n e (sFM X) (fun l σ' => rFM X (L ++ l) σ') (pFs t e (k + 1) p) σ σ') none (sL σ1 125 (60 * X + i) 0) := by
        refine ⟨f1.fFM.sL (sFM5 X (by omega)), ?_⟩
        rw [pFs, hR]
        exact hZ1
      refine S_M_element_56 ⟨vp_in_nI hX (by decide), fun _ => fin, fun _ => ⟨fun _ => fin, fun z => absurd z hZ1.nz⟩⟩
theorem w_eM20z {X : Nat} {w pl : Int32} (hX : X < 120) (h : ZM t b n e w pl σ) : Wq 260 (d + 5) 20 [some (.ref 103), some (.int (nI X)), none, none] [] σ (Qv fun σ' => Fr (sLM X) σ σ' ∧ ZM t b n e w pl σ') := by
  obtain ⟨s1, s2, s3⟩ := sLMx X
  have hin : vp_in (nI X) 120 := vp_in_nI hX (by decide)
  refine S_M_element_20 ?_
  rw [nI_clamp (by omega)]
  refine (m_constantz (d := d) h).mono fun x σ1 hx => ?_
  obtain ⟨r, rfl, f1, hZ1⟩ := Qi_s hx
  show _ ∧ _ ∧ _
  refine ⟨hin, hin, ?_⟩
  have hZ2 : ∀ v1 v2, ZM t b n e w pl (sL (sI σ1 132 X v1) 124 X v2) := fun _ _ => (hZ1.sI (ew rfl)).sL
  refine y0I (c_manyz (d := d + 2) (hZ2 _ _).nz) ⟨hin, ?_⟩
  have hZ3 : ∀ v1 v2, ZM t b n e w pl (sI (sL (sI σ1 132 X v1) 124 X v2) 133 X 0) := fun _ _ => (hZ2 _ _).sI (ew rfl)
  have fin : ∀ v1 v2, (Qv fun σ' => Fr (sLM X) σ σ' ∧ ZM t b n e w pl σ') none (sI (sL (sI σ1 132 X v1) 124 X v2) 133 X 0) := fun v1 v2 => ⟨((f1.cLM.sI s1).sL s2).sI s3, hZ3 v1 v2⟩
  exact S_M_element_56 ⟨hin, fun _ => fin _ _, fun _ => ⟨fun _ => fin _ _, fun z => absurd z (hZ3 _ _).nz⟩⟩
theorem m_element {X : Nat} (hX : X < 120) (h : RM t b n e p σ) (hf : σ.1 103 42 = 0) : Cv (d + 5) 260 [.ref 103, .int (nI X)] σ (fun σ' => YM t b n e (sLM X) (rLM X) (pEl t e p) σ σ') := by
  obtain ⟨s1, s2, s3⟩ := sLMx X
  have hin : vp_in (nI X) 120 := vp_in_nI hX (by decide)
  have hp1 : σ.1 103 40 = nI p := h.2.2.2.2.2.2.1
  refine S_M_element ?_
  rw [hp1]
  have zend : ∀ (σ2 : fkS) (w pl : Int32), ZM t b n e w pl σ2 → Fr fM σ σ2 → pEl t e p = .inr (w, pl) → Wq 260 (d + 5) 20 [some (.ref 103), some (.int (nI X)), none, none] [] σ2 (Qv fun σ' => YM t b n e (sLM X) (rLM X) (pEl t e p) σ σ') := by
    intro σ2 w pl hZ f2 hp
    refine (w_eM20z (d := d) hX hZ).mono fun x σ3 hx => ?_
    obtain ⟨rfl, f3, hu⟩ := Qv_s hx
    refine ⟨f2.fCM.cLM.tr f3, ?_⟩
    rw [hp]
    exact hu
  have cmp0 : ∀ B, B < 2 ^ 32 → (lg_cmp (lN B) (0 : Int64) = 0 ↔ B = 0) := by
    intro B hB
    unfold lg_cmp
    by_cases hB0 : B = 0
    · subst hB0
      exact ⟨fun _ => rfl, fun _ => by decide⟩
    · have h1 : ¬ lN B ≤ (0 : Int64) := fun z => hB0 (by have := (pk_lLE (b := 0) (by omega) (by decide)).mp z; omega)
      have h2 : lN B > (0 : Int64) := Int64.not_le.mp h1
      rw [if_pos h2]
      exact ⟨fun z => absurd z (by decide), fun z => absurd z hB0⟩
  refine qJ h hf (mU h hf) (fun B q r hR hv hR1 hf1 => ?_) fun w pl r σ1 hR hr0 hZ f1 => ?_
  · subst hv
    obtain ⟨-, hB, hq1, hq2⟩ := nU_l hR
    have hp : pEl t e p = if B = 0 then pEl2 t e q else .inr (-1, nI p) := by unfold pEl; rw [hR]; rfl
    refine ⟨fun y => ?_, fun y => ?_⟩
    · rw [if_pos ((cmp0 B hB).mp y)] at hp
      refine S_M_element_20 ?_
      rw [nI_clamp (by omega)]
      refine qYI (m_constant (d := d) hR1 hf1) (fun c q2 r σ1 hR2 f1 hv hR3 hf3 => ?_) fun w pl r σ1 hR2 f1 hZ => ?_
      · obtain ⟨rfl, h45⟩ := hv
        rw [h45]
        refine ⟨hin, hin, ?_⟩
        generalize hτ : sL (sI σ1 132 X (nI c.1)) 124 X (c.2 &&& (Int64.ofNat 4294967295)) = τ
        have g1 : RM t b n e q2 τ := by subst hτ; exact (hR3.sI (ew rfl)).sL
        have g2 : τ.1 103 42 = 0 := by subst hτ; exact hf3
        have g3 : Fr (sLM X) σ τ := by subst hτ; exact ((okM_fr.fCM.cLM.tr f1.cLM).sI s1).sL s2
        have g4 : τ.1 132 X = nI c.1 := by
          subst hτ
          show (sI σ1 132 X (nI c.1)).1 132 X = nI c.1
          exact sI_ss
        have g5 : τ.2.1 124 X = (c.2 &&& (Int64.ofNat 4294967295)) := by subst hτ; exact sL_ss
        clear hτ
        refine qI g1 g2 (mV g1 g2) (fun m q3 r hR4 hv hR5 hf5 => ?_) fun w pl r σ2 hR4 hr0 hZ f2 => ?_
        · subst hv
          obtain ⟨-, hm, -, -⟩ := nV_l hR4
          refine ⟨hin, ?_⟩
          refine (w_eM56 (d := d) hX hm m 0 q3 [] (sI (okM τ q3) 133 X (nI m)) (Nat.zero_add _) rfl (hR5.sI (ew rfl)) (g0_sI hf5 rfl) sI_ss (fun j y hy => by cases hy)).mono fun y σ2 hx => ?_
          obtain ⟨rfl, f2, hu⟩ := Qv_s hx
          refine ⟨(((g3.tr okM_fr.fCM.cLM)).sI s3).tr f2.FLM, ?_⟩
          have hp2 : pEl2 t e q = bR (pFs t e m q3) fun l p4 => .inl ((c.1, c.2, l), p4) := by
            unfold pEl2
            rw [hR2]
            show bR (nV t e q2) _ = _
            rw [hR4]
            rfl
          rw [hp, hp2]
          cases hF : pFs t e m q3 with
          | inl y =>
            obtain ⟨l2, q4⟩ := y
            rw [hF] at hu
            obtain ⟨u1, u2, u3⟩ := hu
            have hlen := (pFs_len _ _ _ _ hF).1
            refine ⟨⟨?_, ?_, ?_, u1⟩, u2, u3⟩
            · rw [(f2 132 X rfl).1, sI_o (by decide)]
              exact g4
            · rw [(f2 124 X rfl).2.1]
              exact g5
            · rw [(f2 133 X rfl).1, sI_ss]
              show nI m = nI l2.length
              rw [hlen]
          | inr y =>
            obtain ⟨w, pl⟩ := y
            rw [hF] at hu
            exact hu
        · subst hr0
          refine ⟨hin, ?_⟩
          have hZ3 : ZM t b n e w pl (sI σ2 133 X 0) := hZ.sI (ew rfl)
          have fin : (Qv fun σ' => YM t b n e (sLM X) (rLM X) (pEl t e p) σ σ') none (sI σ2 133 X 0) := by
            refine ⟨(g3.tr f2.fCM.cLM).sI s3, ?_⟩
            have hp2 : pEl2 t e q = .inr (w, pl) := by
              unfold pEl2
              rw [hR2]
              show bR (nV t e q2) _ = _
              rw [hR4]
              rfl
            rw [hp, hp2]
            exact hZ3
          exact S_M_element_56 ⟨hin, fun _ => fin, fun _ => ⟨fun _ => fin, fun z => absurd z hZ3.nz⟩⟩
      · refine ⟨hin, hin, ?_⟩
        have hZ2 : ∀ v1 v2, ZM t b n e w pl (sL (sI σ1 132 X v1) 124 X v2) := fun _ _ => (hZ.sI (ew rfl)).sL
        refine y0I (c_manyz (d := d + 2) (hZ2 _ _).nz) ⟨hin, ?_⟩
        have hZ3 : ∀ v1 v2, ZM t b n e w pl (sI (sL (sI σ1 132 X v1) 124 X v2) 133 X 0) := fun _ _ => (hZ2 _ _).sI (ew rfl)
        have fin : ∀ v1 v2, (Qv fun σ' => YM t b n e (sLM X) (rLM X) (pEl t e p) σ σ') none (sI (sL (sI σ1 132 X v1) 124 X v2) 133 X 0) := by
          intro v1 v2
          refine ⟨(((okM_fr.fCM.cLM.tr f1.cLM).sI s1).sL s2).sI s3, ?_⟩
          have hp2 : pEl2 t e q = .inr (w, pl) := by
            unfold pEl2
            rw [hR2]
            rfl
          rw [hp, hp2]
          exact hZ3 v1 v2
        exact S_M_element_56 ⟨hin, fun _ => fin _ _, fun _ => ⟨fun _ => fin _ _, fun z => absurd z (hZ3 _ _).nz⟩⟩
    · rw [if_neg (fun z => y ((cmp0 B hB).mpr z))] at hp
      refine qFails hR1 hf1 (by decide) fun σ2 hZ f2 => ?_
      exact zend σ2 _ _ hZ (okM_fr.tr f2) hp
  · subst hr0
    have hp : pEl t e p = .inr (w, pl) := by unfold pEl; rw [hR]; rfl
    exact ⟨fun _ => zend σ1 w pl hZ f1 hp, fun z => absurd (by decide) z⟩
end ELM
