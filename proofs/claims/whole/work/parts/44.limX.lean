/-! LIMITS, CONSTANTS, GLOBALS, EXPORTS, ELEMENTS: the class -/
abbrev Li : Type := Nat × Option Nat
def pLi2 (t : Nat → UInt8) (e fl a p2 : Nat) : Rr Li := if fl = 1 then bR (nU t e p2) fun b p3 => .inl ((a, some b), p3) else .inl ((a, none), p2)
def pLi (t : Nat → UInt8) (e p : Nat) : Rr Li := bR (nN t e p) fun fl p1 => if fl ≤ 1 then bR (nU t e p1) fun a p2 => pLi2 t e fl a p2 else .inr (-1, nI p)
def lM (x : Option Nat) : Int64 := match x with
  | some b => lN b
  | none => Int64.ofNat 18446744073709551615
theorem sL3 {σ : fkS} {c j b : Nat} {v : Int64} : (sL σ c j v).2.1 c b = if b = j then v else σ.2.1 c b := congrFun sL_s b
def DL28 (x : Li) (σ : fkS) : Prop := σ.2.1 28 0 = lN x.1 ∧ σ.2.1 28 1 = lM x.2
def sL28 (c j : Nat) : Bool := f46 c j || Nat.beq c 28
theorem Fr.f46L28 {σ σ' : fkS} (h : Fr f46 σ σ') : Fr sL28 σ σ' := h.mono fun c j h => by unfold sL28; rw [h]; rfl
theorem w_lim64z28 {d n e : Nat} {t : Nat → UInt8} {w pl : Int32} {v3 : Int32} {s2 : Int64} {σ : fkS} (h : ZX t n e w pl σ) : Wq 51 (d + 2) 64 [some (.ref 45), some (.ref 28), none, some (.int v3)] [.long s2, .int (0 : Int32), .ref 28] σ (Qv fun σ' => σ'.2.2 = σ.2.2 ∧ Fr sL28 σ σ' ∧ ZX t n e w pl σ') := by
  refine S_ModuleReader_limits_64 ⟨vp_in_nI (n := 0) (by decide) (by decide), ?_⟩
  refine zFine (t := t) (n := n) (e := e) (w := w) (pl := pl) h.sL ⟨fun _ => ⟨vp_in_nI (n := 1) (by decide) (by decide), rfl, (Fr.rf.sL rfl).sL rfl, h.sL.sL⟩, fun z => absurd rfl z⟩
theorem w_lim6428 {d n e fl a p2 : Nat} {t : Nat → UInt8} {σ : fkS} (h : RX t n e p2 σ) (hf : σ.1 46 3 = 0) (hfl : fl ≤ 1) : Wq 51 (d + 2) 64 [some (.ref 45), some (.ref 28), none, some (.int (nI fl))] [.long (lN a), .int (0 : Int32), .ref 28] σ (Qv fun σ' => σ'.2.2 = σ.2.2 ∧ YR t n e sL28 DL28 (pLi2 t e fl a p2) σ σ') := by
  refine S_ModuleReader_limits_64 ⟨vp_in_nI (n := 0) (by decide) (by decide), ?_⟩
  refine kFine (t := t) (n := n) (e := e) (p := p2) h.sL hf ⟨fun z => absurd z (by decide), fun _ => ⟨fun z => ⟨vp_in_nI (n := 1) (by decide) (by decide), rfl, (Fr.rf.sL rfl).sL rfl, ?_⟩, fun z => ?_⟩⟩
  · have hv0 : fl ≠ 1 := fun y => z (by rw [y]; rfl)
    unfold pLi2
    rw [if_neg hv0]
    exact ⟨⟨(sL_so (by decide)).trans sL_ss, sL_ss⟩, h.sL.sL, hf⟩
  · have hv1 : fl = 1 := (nI_eq (b := 1) (by omega) (by decide)).mp z
    unfold pLi2
    rw [if_pos hv1]
    refine kJ (t := t) (n := n) (e := e) (p := p2) h.sL hf (cU h.sL hf) (fun b q r hR hv e1 hR1 hf1 => ?_) fun w pl r σ1 hR _ e1 hZ f1 => ?_
    · subst hv
      refine ⟨vp_in_nI (n := 1) (by decide) (by decide), rfl, (((Fr.rf.sL rfl).tr okX_fr.f46L28).sL rfl), ?_⟩
      rw [hR]
      exact ⟨⟨(sL_so (by decide)).trans sL_ss, sL_ss⟩, hR1.sL, hf1⟩
    · simp only [sW_eq (show σ1.2.2 = σ.2.2 from e1)]
      refine ⟨vp_in_nI (n := 1) (by decide) (by decide), e1, (((Fr.rf.sL rfl).tr f1.f46L28).sL rfl), ?_⟩
      rw [hR]
      exact hZ.sL
theorem c_limits28 {d n e p : Nat} {t : Nat → UInt8} {σ : fkS} (h : RX t n e p σ) (hf : σ.1 46 3 = 0) : Dv (d + 2) 51 [.ref 45, .ref 28] σ (fun σ' => YR t n e sL28 DL28 (pLi t e p) σ σ') := by
  refine S_ModuleReader_limits (kFine h hf ⟨fun _ => ?_, fun z => absurd z (by decide)⟩)
  simp only [sW_id]
  have done : ∀ (σ1 : fkS) (w pl : Int32) (v3 : Int32) (s2 : Int64), ZX t n e w pl σ1 → σ1.2.2 = σ.2.2 → Fr f46 σ σ1 → pLi t e p = .inr (w, pl) → Wq 51 (d + 2) 64 [some (.ref 45), some (.ref 28), none, some (.int v3)] [.long s2, .int (0 : Int32), .ref 28] σ1 (Qv fun σ' => σ'.2.2 = σ.2.2 ∧ YR t n e sL28 DL28 (pLi t e p) σ σ') := by
    intro σ1 w pl v3 s2 hZ e1 f1 hR
    refine (w_lim64z28 (d := d) hZ).mono fun x σ2 hx => ?_
    obtain ⟨rfl, e2, f2, hu⟩ := Qv_s hx
    refine ⟨e2.trans e1, f1.f46L28.tr f2, ?_⟩
    rw [hR]
    exact hu
  refine kI h hf (cN h hf) (fun fl q r hR hv e1 hR1 hf1 => ?_) fun w pl r σ1 hR hr0 e1 hZ f1 => ?_
  · subst hv
    simp only [sW_okX]
    have hfl : fl < 256 := by have := (nN_l hR).2.1; have := (t p).toNat_lt; omega
    have hp : pLi t e p = if fl ≤ 1 then bR (nU t e q) fun a p2 => pLi2 t e fl a p2 else .inr (-1, nI p) := by unfold pLi; rw [hR]; rfl
    refine ⟨fun z => ?_, fun z => ?_⟩
    · have hfl1 : fl ≤ 1 := (nI_leI (b := 1) (by omega) (by decide)).mp z
      rw [if_pos hfl1] at hp
      refine kFine hR1 hf1 ⟨fun z => absurd z (by decide), fun _ => ?_⟩
      simp only [sW_okX]
      refine kJ hR1 hf1 (cU hR1 hf1) (fun a q2 r hR2 hv e2 hR3 hf3 => ?_) fun w pl r σ2 hR2 _ e2 hZ f2 => ?_
      · subst hv
        rw [hR2] at hp
        rw [okX_ok] at hR3 hf3 ⊢
        simp only [sW_okX]
        refine (w_lim6428 (d := d) (a := a) hR3 hf3 hfl1).mono fun x σ3 hx => ?_
        obtain ⟨rfl, e3, f3, hu⟩ := Qv_s hx
        refine ⟨e3, okX_fr.f46L28.tr f3, ?_⟩
        rw [hp]
        exact hu
      · rw [hR2] at hp
        simp only [sW_eq (show σ2.2.2 = σ.2.2 from e2)]
        exact done σ2 w pl _ _ hZ e2 (okX_fr.tr f2) hp
    · have hfl1 : ¬ fl ≤ 1 := fun y => z ((nI_leI (b := 1) (by omega) (by decide)).mpr y)
      rw [if_neg hfl1] at hp
      refine kFail hR1 hf1 (by decide) fun σ2 e2 hZ f2 => ?_
      simp only [sW_eq (show σ2.2.2 = σ.2.2 from e2)]
      have hp1 : σ.1 46 1 = nI p := h.2.2.2.2.2.1
      rw [hp1] at hZ
      refine zFine hZ ⟨fun _ => ?_, fun z => absurd rfl z⟩
      simp only [sW_eq (show σ2.2.2 = σ.2.2 from e2)]
      exact done σ2 _ _ _ _ hZ e2 (okX_fr.tr f2) hp
  · subst hr0
    simp only [sW_eq e1]
    have hp : pLi t e p = .inr (w, pl) := by unfold pLi; rw [hR]; rfl
    refine ⟨fun _ => zFine hZ ⟨fun _ => ?_, fun z => absurd rfl z⟩, fun z => absurd (by decide) z⟩
    simp only [sW_eq e1]
    exact done σ1 w pl _ _ hZ e1 f1 hp
def DL29 (x : Li) (σ : fkS) : Prop := σ.2.1 29 0 = lN x.1 ∧ σ.2.1 29 1 = lM x.2
def sL29 (c j : Nat) : Bool := f46 c j || Nat.beq c 29
theorem Fr.f46L29 {σ σ' : fkS} (h : Fr f46 σ σ') : Fr sL29 σ σ' := h.mono fun c j h => by unfold sL29; rw [h]; rfl
theorem w_lim64z29 {d n e : Nat} {t : Nat → UInt8} {w pl : Int32} {v3 : Int32} {s2 : Int64} {σ : fkS} (h : ZX t n e w pl σ) : Wq 51 (d + 2) 64 [some (.ref 45), some (.ref 29), none, some (.int v3)] [.long s2, .int (0 : Int32), .ref 29] σ (Qv fun σ' => σ'.2.2 = σ.2.2 ∧ Fr sL29 σ σ' ∧ ZX t n e w pl σ') := by
  refine S_ModuleReader_limits_v1_64 ⟨vp_in_nI (n := 0) (by decide) (by decide), ?_⟩
  refine zFine (t := t) (n := n) (e := e) (w := w) (pl := pl) h.sL ⟨fun _ => ⟨vp_in_nI (n := 1) (by decide) (by decide), rfl, (Fr.rf.sL rfl).sL rfl, h.sL.sL⟩, fun z => absurd rfl z⟩
theorem w_lim6429 {d n e fl a p2 : Nat} {t : Nat → UInt8} {σ : fkS} (h : RX t n e p2 σ) (hf : σ.1 46 3 = 0) (hfl : fl ≤ 1) : Wq 51 (d + 2) 64 [some (.ref 45), some (.ref 29), none, some (.int (nI fl))] [.long (lN a), .int (0 : Int32), .ref 29] σ (Qv fun σ' => σ'.2.2 = σ.2.2 ∧ YR t n e sL29 DL29 (pLi2 t e fl a p2) σ σ') := by
  refine S_ModuleReader_limits_v1_64 ⟨vp_in_nI (n := 0) (by decide) (by decide), ?_⟩
  refine kFine (t := t) (n := n) (e := e) (p := p2) h.sL hf ⟨fun z => absurd z (by decide), fun _ => ⟨fun z => ⟨vp_in_nI (n := 1) (by decide) (by decide), rfl, (Fr.rf.sL rfl).sL rfl, ?_⟩, fun z => ?_⟩⟩
  · have hv0 : fl ≠ 1 := fun y => z (by rw [y]; rfl)
    unfold pLi2
    rw [if_neg hv0]
    exact ⟨⟨(sL_so (by decide)).trans sL_ss, sL_ss⟩, h.sL.sL, hf⟩
  · have hv1 : fl = 1 := (nI_eq (b := 1) (by omega) (by decide)).mp z
    unfold pLi2
    rw [if_pos hv1]
    refine kJ (t := t) (n := n) (e := e) (p := p2) h.sL hf (cU h.sL hf) (fun b q r hR hv e1 hR1 hf1 => ?_) fun w pl r σ1 hR _ e1 hZ f1 => ?_
    · subst hv
      refine ⟨vp_in_nI (n := 1) (by decide) (by decide), rfl, (((Fr.rf.sL rfl).tr okX_fr.f46L29).sL rfl), ?_⟩
      rw [hR]
      exact ⟨⟨(sL_so (by decide)).trans sL_ss, sL_ss⟩, hR1.sL, hf1⟩
    · simp only [sW_eq (show σ1.2.2 = σ.2.2 from e1)]
      refine ⟨vp_in_nI (n := 1) (by decide) (by decide), e1, (((Fr.rf.sL rfl).tr f1.f46L29).sL rfl), ?_⟩
      rw [hR]
      exact hZ.sL
theorem c_limits29 {d n e p : Nat} {t : Nat → UInt8} {σ : fkS} (h : RX t n e p σ) (hf : σ.1 46 3 = 0) : Dv (d + 2) 51 [.ref 45, .ref 29] σ (fun σ' => YR t n e sL29 DL29 (pLi t e p) σ σ') := by
  refine S_ModuleReader_limits_v1 (kFine h hf ⟨fun _ => ?_, fun z => absurd z (by decide)⟩)
  simp only [sW_id]
  have done : ∀ (σ1 : fkS) (w pl : Int32) (v3 : Int32) (s2 : Int64), ZX t n e w pl σ1 → σ1.2.2 = σ.2.2 → Fr f46 σ σ1 → pLi t e p = .inr (w, pl) → Wq 51 (d + 2) 64 [some (.ref 45), some (.ref 29), none, some (.int v3)] [.long s2, .int (0 : Int32), .ref 29] σ1 (Qv fun σ' => σ'.2.2 = σ.2.2 ∧ YR t n e sL29 DL29 (pLi t e p) σ σ') := by
    intro σ1 w pl v3 s2 hZ e1 f1 hR
    refine (w_lim64z29 (d := d) hZ).mono fun x σ2 hx => ?_
    obtain ⟨rfl, e2, f2, hu⟩ := Qv_s hx
    refine ⟨e2.trans e1, f1.f46L29.tr f2, ?_⟩
    rw [hR]
    exact hu
  refine kI h hf (cN h hf) (fun fl q r hR hv e1 hR1 hf1 => ?_) fun w pl r σ1 hR hr0 e1 hZ f1 => ?_
  · subst hv
    simp only [sW_okX]
    have hfl : fl < 256 := by have := (nN_l hR).2.1; have := (t p).toNat_lt; omega
    have hp : pLi t e p = if fl ≤ 1 then bR (nU t e q) fun a p2 => pLi2 t e fl a p2 else .inr (-1, nI p) := by unfold pLi; rw [hR]; rfl
    refine ⟨fun z => ?_, fun z => ?_⟩
    · have hfl1 : fl ≤ 1 := (nI_leI (b := 1) (by omega) (by decide)).mp z
      rw [if_pos hfl1] at hp
      refine kFine hR1 hf1 ⟨fun z => absurd z (by decide), fun _ => ?_⟩
      simp only [sW_okX]
      refine kJ hR1 hf1 (cU hR1 hf1) (fun a q2 r hR2 hv e2 hR3 hf3 => ?_) fun w pl r σ2 hR2 _ e2 hZ f2 => ?_
      · subst hv
        rw [hR2] at hp
        rw [okX_ok] at hR3 hf3 ⊢
        simp only [sW_okX]
        refine (w_lim6429 (d := d) (a := a) hR3 hf3 hfl1).mono fun x σ3 hx => ?_
        obtain ⟨rfl, e3, f3, hu⟩ := Qv_s hx
        refine ⟨e3, okX_fr.f46L29.tr f3, ?_⟩
        rw [hp]
        exact hu
      · rw [hR2] at hp
        simp only [sW_eq (show σ2.2.2 = σ.2.2 from e2)]
        exact done σ2 w pl _ _ hZ e2 (okX_fr.tr f2) hp
    · have hfl1 : ¬ fl ≤ 1 := fun y => z ((nI_leI (b := 1) (by omega) (by decide)).mpr y)
      rw [if_neg hfl1] at hp
      refine kFail hR1 hf1 (by decide) fun σ2 e2 hZ f2 => ?_
      simp only [sW_eq (show σ2.2.2 = σ.2.2 from e2)]
      have hp1 : σ.1 46 1 = nI p := h.2.2.2.2.2.1
      rw [hp1] at hZ
      refine zFine hZ ⟨fun _ => ?_, fun z => absurd rfl z⟩
      simp only [sW_eq (show σ2.2.2 = σ.2.2 from e2)]
      exact done σ2 _ _ _ _ hZ e2 (okX_fr.tr f2) hp
  · subst hr0
    simp only [sW_eq e1]
    have hp : pLi t e p = .inr (w, pl) := by unfold pLi; rw [hR]; rfl
    refine ⟨fun _ => zFine hZ ⟨fun _ => ?_, fun z => absurd rfl z⟩, fun z => absurd (by decide) z⟩
    simp only [sW_eq e1]
    exact done σ1 w pl _ _ hZ e1 f1 hp
