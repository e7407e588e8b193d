/-! GLOBALS: the class -/
abbrev Gl : Type := Nat × Nat × Nat × Int64
def pGl3 (t : Nat → UInt8) (e ty st p2 : Nat) : Rr Gl := bR (pCo t e p2) fun c p3 => .inl ((ty, st, c.1, c.2), p3)
def pGl (t : Nat → UInt8) (e p : Nat) : Rr Gl := bR (nT t e p) fun ty p1 => bR (nN t e p1) fun st p2 => if st ≤ 1 then pGl3 t e ty st p2 else .inr (-1, nI p1)
def rG3 (l : List Gl) (σ : fkS) : Prop := ∀ k x, l[k]? = some x → σ.1 30 (3 * k) = nI x.1 ∧ σ.1 30 (3 * k + 1) = nI x.2.1 ∧ σ.1 30 (3 * k + 2) = nI x.2.2.1 ∧ σ.2.1 31 k = x.2.2.2
def DG (l : List Gl) (σ : fkS) : Prop := σ.1 24 9 = nI l.length ∧ rG3 l σ
def sDG (c j : Nat) : Bool := f46 c j || (Nat.beq c 24 && Nat.beq j 9) || Nat.beq c 30 || Nat.beq c 31
theorem Fr.f46G {σ σ' : fkS} (h : Fr f46 σ σ') : Fr sDG σ σ' := h.mono fun c j h => by unfold sDG; rw [h]; rfl
theorem w_glob74z {d n e k : Nat} {t : Nat → UInt8} {w pl : Int32} {σ : fkS} (h : ZX t n e w pl σ) (hk : k < 60) : Wq 52 (d + 3) 74 [some (.ref 45), some (.ref 24), some (.int (nI k)), none] [] σ (Qv fun σ' => σ'.2.2 = σ.2.2 ∧ Fr sDG σ σ' ∧ ZX t n e w pl σ') := by
  have e3 : (3 : Int32) * nI k + (2 : Int32) = nI (3 * k + 2) := by rw [show (3 : Int32) = nI 3 from rfl, nI_mul, show (2 : Int32) = nI 2 from rfl, nI_add]
  have hin : vp_in ((3 : Int32) * nI k + (2 : Int32)) 180 := by rw [e3]; exact vp_in_nI (by omega) (by decide)
  refine S_ModuleReader_oneGlobal_74 (c_operatorz h ⟨hin, hin, ?_⟩)
  have hZ1 : ZX t n e w pl (sI (sW σ σ) 30 (((3 : Int32) * nI k + (2 : Int32)).toNatClampNeg) 0) := h.sI rfl
  refine c_constantz hZ1 ⟨vp_in_nI hk (by decide), rfl, ?_, ?_⟩
  · exact ((Fr.rf.sI rfl).sL rfl).sI rfl
  · exact (hZ1.sL).sI rfl
theorem w_glob74 {d n e p2 ty st : Nat} {t : Nat → UInt8} {l : List Gl} {σ : fkS} (h : RX t n e p2 σ) (hf : σ.1 46 3 = 0) (hl : l.length < 60) (hc : σ.1 24 9 = nI l.length) (hr : rG3 l σ) (h0 : σ.1 30 (3 * l.length) = nI ty) (h1 : σ.1 30 (3 * l.length + 1) = nI st) : Wq 52 (d + 3) 74 [some (.ref 45), some (.ref 24), some (.int (nI l.length)), none] [] σ (Qv fun σ' => σ'.2.2 = σ.2.2 ∧ YR t n e sDG (fun x => DG (l ++ [x])) (pGl3 t e ty st p2) σ σ') := by
  have e3 : (3 : Int32) * nI l.length + (2 : Int32) = nI (3 * l.length + 2) := by rw [show (3 : Int32) = nI 3 from rfl, nI_mul, show (2 : Int32) = nI 2 from rfl, nI_add]
  have hin : vp_in ((3 : Int32) * nI l.length + (2 : Int32)) 180 := by rw [e3]; exact vp_in_nI (by omega) (by decide)
  have ec : ((3 : Int32) * nI l.length + (2 : Int32)).toNatClampNeg = 3 * l.length + 2 := by rw [e3]; exact nI_clamp (by omega)
  refine S_ModuleReader_oneGlobal_74 ?_
  refine kYI (c_operator h hf) (fun op q r σ1 hR e1 f1 hv hR1 hf1 => ?_) fun w pl r σ1 hR e1 f1 hZ => ?_
  · subst hv
    have ho : op < 256 := by
      unfold pOp at hR
      cases hN : nN t e p2 with
      | inl y =>
        obtain ⟨v, q2⟩ := y
        have := (nN_l hN).2.1
        have := (t p2).toNat_lt
        rw [hN] at hR
        simp only [bR] at hR
        split at hR
        · cases hR
        · split at hR
          · cases hR
            omega
          · cases hR
      | inr y => rw [hN] at hR; cases hR
    simp only [sW_eq e1]
    refine ⟨hin, hin, ?_⟩
    rw [ec, sI_ss]
    have g1 : RX t n e q (sI σ1 30 (3 * l.length + 2) (nI op)) := hR1.sI rfl
    have g2 : (sI σ1 30 (3 * l.length + 2) (nI op)).1 46 3 = 0 := f0_sI hf1 rfl
    refine kYJ (c_constant (d := d) g1 g2 ho) (fun v q2 r σ2 hR2 e2 f2 hv hR3 hf3 => ?_) fun w pl r σ2 hR2 e2 f2 hZ => ?_
    · subst hv
      simp only [sW_eq (show σ2.2.2 = σ.2.2 from e2.trans e1)]
      refine ⟨vp_in_nI hl (by decide), e2.trans e1, (((f1.f46G.sI rfl).tr f2.f46G).sL rfl).sI rfl, ?_⟩
      have hp : pGl3 t e ty st p2 = .inl ((ty, st, op, r), q2) := by
        unfold pGl3 pCo
        rw [hR]
        show bR (bR (pCv t e op q) _) _ = _
        rw [hR2]
        rfl
      rw [hp]
      refine ⟨⟨?_, fun k x hx => ?_⟩, (hR3.sL).sI rfl, f0_sI hf3 rfl⟩
      · rw [sI_ss, List.length_append]
        show σ2.1 24 9 + 1 = _
        rw [(f2 24 9 rfl).1, sI_o (by decide), (f1 24 9 rfl).1, hc]
        exact nI_1 _
      · have e30 : ∀ j, (sI (sL σ2 31 (nI l.length).toNatClampNeg r) 24 9 (σ2.1 24 9 + 1)).1 30 j = if j = 3 * l.length + 2 then nI op else σ.1 30 j := by
          intro j
          rw [sI_o (by decide)]
          show σ2.1 30 j = _
          rw [(f2 30 j rfl).1, sI3, (f1 30 j rfl).1]
        have e31 : ∀ j, (sI (sL σ2 31 (nI l.length).toNatClampNeg r) 24 9 (σ2.1 24 9 + 1)).2.1 31 j = if j = l.length then r else σ.2.1 31 j := by
          intro j
          show (sL σ2 31 (nI l.length).toNatClampNeg r).2.1 31 j = _
          rw [nI_clamp (by omega), sL3, (f2 31 j rfl).2.1]
          show (if j = l.length then r else σ1.2.1 31 j) = _
          rw [(f1 31 j rfl).2.1]
        rw [e30, e30, e30, e31]
        rcases get_snoc hx with ⟨hy, hk⟩ | ⟨rfl, rfl⟩
        · obtain ⟨a1, a2, a3, a4⟩ := hr k x hy
          rw [if_neg (by omega), if_neg (by omega), if_neg (by omega), if_neg (by omega)]
          exact ⟨a1, a2, a3, a4⟩
        · rw [if_neg (by omega), if_neg (by omega), if_pos rfl, if_pos rfl]
          exact ⟨h0, h1, rfl, rfl⟩
    · simp only [sW_eq (show σ2.2.2 = σ.2.2 from e2.trans e1)]
      refine ⟨vp_in_nI hl (by decide), e2.trans e1, (((f1.f46G.sI rfl).tr f2.f46G).sL rfl).sI rfl, ?_⟩
      have hp : pGl3 t e ty st p2 = .inr (w, pl) := by
        unfold pGl3 pCo
        rw [hR]
        show bR (bR (pCv t e op q) _) _ = _
        rw [hR2]
        rfl
      rw [hp]
      exact (hZ.sL).sI rfl
  · simp only [sW_eq e1]
    refine ⟨hin, hin, ?_⟩
    have hZ1 : ZX t n e w pl (sI σ1 30 (((3 : Int32) * nI l.length + (2 : Int32)).toNatClampNeg) r) := hZ.sI rfl
    refine c_constantz hZ1 ?_
    simp only [sW_eq (show (sI σ1 30 (((3 : Int32) * nI l.length + (2 : Int32)).toNatClampNeg) r).2.2 = σ.2.2 from e1)]
    refine ⟨vp_in_nI hl (by decide), e1, ((f1.f46G.sI rfl).sL rfl).sI rfl, ?_⟩
    have hp : pGl3 t e ty st p2 = .inr (w, pl) := by
      unfold pGl3 pCo
      rw [hR]
      rfl
    rw [hp]
    exact (hZ1.sL).sI rfl
theorem c_global {d n e p : Nat} {t : Nat → UInt8} {l : List Gl} {σ : fkS} (h : RX t n e p σ) (hf : σ.1 46 3 = 0) (hl : l.length < 60) (hD : DG l σ) : Dv (d + 3) 52 [.ref 45, .ref 24, .int (nI l.length)] σ (fun σ' => YR t n e sDG (fun x => DG (l ++ [x])) (pGl t e p) σ σ') := by
  obtain ⟨hc, hr⟩ := hD
  have e0 : (3 : Int32) * nI l.length = nI (3 * l.length) := by rw [show (3 : Int32) = nI 3 from rfl, nI_mul]
  have e1' : (3 : Int32) * nI l.length + (1 : Int32) = nI (3 * l.length + 1) := by rw [e0]; exact nI_1 _
  have hin0 : vp_in ((3 : Int32) * nI l.length) 180 := by rw [e0]; exact vp_in_nI (by omega) (by decide)
  have hin1 : vp_in ((3 : Int32) * nI l.length + (1 : Int32)) 180 := by rw [e1']; exact vp_in_nI (by omega) (by decide)
  have ec0 : ((3 : Int32) * nI l.length).toNatClampNeg = 3 * l.length := by rw [e0]; exact nI_clamp (by omega)
  have ec1 : ((3 : Int32) * nI l.length + (1 : Int32)).toNatClampNeg = 3 * l.length + 1 := by rw [e1']; exact nI_clamp (by omega)
  refine S_ModuleReader_oneGlobal ?_
  rw [ec0, ec1]
  refine kI h hf (cT h hf) (fun ty q r hR hv e1 hR1 hf1 => ?_) fun w pl r σ1 hR _ e1 hZ f1 => ?_
  · subst hv
    simp only [sW_okX]
    refine ⟨hin0, ?_⟩
    generalize hτ : sI (okX σ q) 30 (3 * l.length) (nI ty) = τ
    have g1 : RX t n e q τ := by subst hτ; exact hR1.sI rfl
    have g2 : τ.1 46 3 = 0 := by subst hτ; exact f0_sI hf1 rfl
    have g3 : τ.2.2 = σ.2.2 := by subst hτ; rfl
    have g4 : Fr sDG σ τ := by subst hτ; exact okX_fr.f46G.sI rfl
    have g5 : rG3 l τ := by
      intro k x hx
      have hk := (List.getElem?_eq_some_iff.mp hx).1
      obtain ⟨a1, a2, a3, a4⟩ := hr k x hx
      subst hτ
      refine ⟨?_, ?_, ?_, a4⟩
      · rw [sI_so (by omega)]; exact a1
      · rw [sI_so (by omega)]; exact a2
      · rw [sI_so (by omega)]; exact a3
    have g6 : τ.1 30 (3 * l.length) = nI ty := by subst hτ; exact sI_ss
    have g7 : τ.1 24 9 = nI l.length := by subst hτ; exact hc
    clear hτ
    refine kFine g1 g2 ⟨fun _ => ?_, fun z => absurd z (by decide)⟩
    simp only [sW_eq g3]
    refine kI g1 g2 (cN g1 g2) (fun st q2 r hR2 hv e2 hR3 hf3 => ?_) fun w pl r σ2 hR2 hr0 e2 hZ f2 => ?_
    · subst hv
      have hst : st < 256 := by have := (nN_l hR2).2.1; have := (t q).toNat_lt; omega
      simp only [sW_eq (show (okX τ q2).2.2 = σ.2.2 from g3)]
      refine ⟨hin1, hin1, ?_⟩
      rw [sI_ss]
      have hp : pGl t e p = if st ≤ 1 then pGl3 t e ty st q2 else .inr (-1, nI q) := by
        unfold pGl
        rw [hR]
        show bR (nN t e q) _ = _
        rw [hR2]
        rfl
      generalize hυ : sI (okX τ q2) 30 (3 * l.length + 1) (nI st) = υ
      have k1 : RX t n e q2 υ := by subst hυ; exact hR3.sI rfl
      have k2 : υ.1 46 3 = 0 := by subst hυ; exact f0_sI hf3 rfl
      have k3 : υ.2.2 = σ.2.2 := by subst hυ; exact g3
      have k4 : Fr sDG σ υ := by subst hυ; exact (g4.tr okX_fr.f46G).sI rfl
      have k5 : rG3 l υ := by
        intro k x hx
        have hk := (List.getElem?_eq_some_iff.mp hx).1
        obtain ⟨a1, a2, a3, a4⟩ := g5 k x hx
        subst hυ
        refine ⟨?_, ?_, ?_, a4⟩
        · rw [sI_so (by omega)]; exact a1
        · rw [sI_so (by omega)]; exact a2
        · rw [sI_so (by omega)]; exact a3
      have k6 : υ.1 30 (3 * l.length) = nI ty := by subst hυ; rw [sI_so (by omega)]; exact g6
      have k7 : υ.1 24 9 = nI l.length := by subst hυ; exact g7
      have k8 : υ.1 30 (3 * l.length + 1) = nI st := by subst hυ; exact sI_ss
      clear hυ
      refine ⟨fun z => ?_, fun z => ?_⟩
      · have h1 : st ≤ 1 := (nI_leI (b := 1) (by omega) (by decide)).mp z
        rw [if_pos h1] at hp
        refine (w_glob74 (d := d) k1 k2 hl k7 k5 k6 k8).mono fun x σ3 hx => ?_
        obtain ⟨rfl, e3, f3, hu⟩ := Qv_s hx
        refine ⟨e3.trans k3, k4.tr f3, ?_⟩
        rw [hp]
        exact hu
      · have h1 : ¬ st ≤ 1 := fun y => z ((nI_leI (b := 1) (by omega) (by decide)).mpr y)
        rw [if_neg h1] at hp
        refine kFail k1 k2 (by decide) fun σ3 e3 hZ f3 => ?_
        simp only [sW_eq (e3.trans k3)]
        refine (w_glob74z (d := d) hZ hl).mono fun x σ4 hx => ?_
        obtain ⟨rfl, e4, f4, hu⟩ := Qv_s hx
        refine ⟨e4.trans (e3.trans k3), k4.tr (f3.f46G.tr f4), ?_⟩
        have e46 : τ.1 46 1 = nI q := g1.2.2.2.2.2.1
        rw [hp, ← e46]
        exact hu
    · subst hr0
      simp only [sW_eq (e2.trans g3)]
      refine ⟨hin1, hin1, ?_⟩
      rw [sI_ss]
      refine ⟨fun _ => ?_, fun z => absurd (by decide) z⟩
      have hZ1 : ZX t n e w pl (sI σ2 30 (3 * l.length + 1) 0) := hZ.sI rfl
      refine (w_glob74z (d := d) hZ1 hl).mono fun x σ4 hx => ?_
      obtain ⟨rfl, e4, f4, hu⟩ := Qv_s hx
      refine ⟨e4.trans (e2.trans g3), ((g4.tr f2.f46G).sI rfl).tr f4, ?_⟩
      have hp : pGl t e p = .inr (w, pl) := by
        unfold pGl
        rw [hR]
        show bR (nN t e q) _ = _
        rw [hR2]
        rfl
      rw [hp]
      exact hu
  · simp only [sW_eq e1]
    refine ⟨hin0, ?_⟩
    have hZ1 : ZX t n e w pl (sI σ1 30 (3 * l.length) r) := hZ.sI rfl
    refine zFine hZ1 ⟨fun z => absurd rfl z, fun _ => ?_⟩
    simp only [sW_eq (show (sI σ1 30 (3 * l.length) r).2.2 = σ.2.2 from e1)]
    refine ⟨e1, f1.f46G.sI rfl, ?_⟩
    have hp : pGl t e p = .inr (w, pl) := by
      unfold pGl
      rw [hR]
      rfl
    rw [hp]
    exact hZ1
