/-! LIMITS, CONSTANTS: the reference -/
theorem pLi_01 (t : Nat → UInt8) (e p : Nat) : pLi t e p = bR (p01 t e p) fun fl p1 => bR (nU t e p1) fun a p2 => pLi2 t e fl a p2 := by
  unfold pLi p01
  cases nN t e p with
  | inl y =>
    obtain ⟨v, q⟩ := y
    simp only [bR]
    split <;> rfl
  | inr y => rfl
theorem p01_le {t : Nat → UInt8} {e p q v : Nat} (h : p01 t e p = .inl (v, q)) : v ≤ 1 ∧ p < q ∧ q ≤ e ∧ nN t e p = .inl (v, q) := by
  unfold p01 at h
  obtain ⟨v2, q1, h1, h⟩ := bR_inl h
  have := nN_l h1
  split at h
  · cases h
    exact ⟨by omega, by omega, by omega, h1⟩
  · cases h
section LIM
variable {t : Nat → UInt8} {b n e p d : Nat} {σ : fkS}
/-- the limits of the first one are kept -/
def rL118 (b k : Nat) (x : Li) (σ : fkS) : Prop := k = 0 → σ.2.1 118 b = lN x.1 ∧ σ.2.1 119 b = lM x.2
def sL118 (b k c j : Nat) : Bool := fM c j || (Nat.beq k 0 && ((Nat.beq c 118 && Nat.beq j b) || (Nat.beq c 119 && Nat.beq j b)))
theorem Fr.fL118 {b k : Nat} {σ σ' : fkS} (h : Fr fM σ σ') : Fr (sL118 b k) σ σ' := h.mono fun c j h => by unfold sL118; rw [h]; rfl
theorem sL118a (b : Nat) : sL118 b 0 118 b = true := by unfold sL118; simp
theorem sL118b (b : Nat) : sL118 b 0 119 b = true := by unfold sL118; simp
theorem w_lim118 {k : Nat} {a s : Int64} (hk : k < 60) (hb : b < 2) (h38 : σ.1 103 38 = nI b) {Q : Option Value → fkS → Prop} (ok : ∀ σ', Fr (sL118 b k) σ σ' → σ'.1 = σ.1 → (k = 0 → σ'.2.1 118 b = a ∧ σ'.2.1 119 b = s) → Q none σ') : Wq 254 (d + 3) 30 [some (.ref 103), some (.int (nI k)), some (.ref 118), some (.ref 119), none, some (.long a), none, none, none] [.long s] σ Q := by
  refine S_M_limits_30 ⟨fun z => ?_, fun z => ?_⟩
  · have hk0 : k = 0 := by
      have := (nI_leI (b := 0) (by omega) (by decide)).mp z
      omega
    subst hk0
    rw [h38, nI_clamp (by omega)]
    refine ⟨vp_in_nI hb (by decide), vp_in_nI hb (by decide), ok _ ((Fr.rf.sL (sL118a b)).sL (sL118b b)) rfl fun _ => ⟨?_, sL_ss⟩⟩
    rw [sL_o (by decide), sL_ss]
  · have hk0 : k ≠ 0 := fun y => z (by rw [y]; decide)
    exact ok σ Fr.rf rfl fun y => absurd y hk0
theorem m_limits118 {k : Nat} (hk : k < 60) (h : RM t b n e p σ) (hf : σ.1 103 42 = 0) : Cv (d + 3) 254 [.ref 103, .int (nI k), .ref 118, .ref 119] σ (fun σ' => YM t b n e (sL118 b k) (rL118 b k) (pLi t e p) σ σ') := by
  have hb := h.1
  have ZMe : ∀ {w pl : Int32} {σ1 σ2 : fkS}, ZM t b n e w pl σ1 → σ2.1 = σ1.1 → ZM t b n e w pl σ2 := by
    intro w pl σ1 σ2 hZ h1
    obtain ⟨⟨q, a0, a1, a2, a3, a4, a5, a6, a7⟩, b1, b2, b3⟩ := hZ
    refine ⟨⟨q, a0, ?_, ?_, a3, a4, ?_, ?_, a7⟩, b1, ?_, ?_⟩ <;> rw [h1] <;> assumption
  refine S_M_limits ?_
  rw [pLi_01]
  refine qYI (m01 (d := d) h hf) (fun fl q r σ1 hR f1 hv hR1 hf1 => ?_) fun w pl r σ1 hR f1 hZ => ?_
  · subst hv
    obtain ⟨hfl, -, -, -⟩ := p01_le hR
    rw [hR]
    simp only [bR]
    refine qJ hR1 hf1 (mU hR1 hf1) (fun a q2 r hR2 hv hR3 hf3 => ?_) fun w pl r σ2 hR2 hr0 hZ f2 => ?_
    · subst hv
      rw [hR2]
      simp only
      refine ⟨fun z => ?_, fun z => ?_⟩
      · have hv0 : fl ≠ 1 := fun y => z (by rw [y]; rfl)
        unfold pLi2
        rw [if_neg hv0]
        refine w_lim118 hk hb hR3.2.1 fun σ3 f3 e3 h3 => ⟨(f1.fL118.tr okM_fr.fL118).tr f3, h3, ?_, ?_⟩
        · obtain ⟨a0, a1, a2, a3, a4, a5, a6, a7⟩ := hR3
          refine ⟨a0, ?_, ?_, a3, a4, ?_, ?_, a7⟩ <;> rw [e3] <;> assumption
        · rw [e3]
          exact hf3
      · have hv1 : fl = 1 := (nI_eq (b := 1) (by omega) (by decide)).mp z
        unfold pLi2
        rw [if_pos hv1]
        refine qJ hR3 hf3 (mU hR3 hf3) (fun c q3 r hR4 hv hR5 hf5 => ?_) fun w pl r σ3 hR4 hr0 hZ f3 => ?_
        · subst hv
          rw [hR4]
          refine w_lim118 hk hb hR5.2.1 fun σ4 f4 e4 h4 => ⟨((f1.fL118.tr okM_fr.fL118).tr okM_fr.fL118).tr f4, h4, ?_, ?_⟩
          · obtain ⟨a0, a1, a2, a3, a4, a5, a6, a7⟩ := hR5
            refine ⟨a0, ?_, ?_, a3, a4, ?_, ?_, a7⟩ <;> rw [e4] <;> assumption
          · rw [e4]
            exact hf5
        · rw [hR4]
          refine w_lim118 hk hb ?_ fun σ4 f4 e4 h4 => ⟨((f1.fL118.tr okM_fr.fL118).tr f3.fL118).tr f4, ZMe hZ e4⟩
          exact hZ.1.choose_spec.2.1
    · subst hr0
      rw [hR2]
      have h38 := hZ.1.choose_spec.2.1
      refine ⟨fun z => ?_, fun z => ?_⟩
      · exact w_lim118 hk hb h38 fun σ4 f4 e4 h4 => ⟨(f1.fL118.tr f2.fL118).tr f4, ZMe hZ e4⟩
      · refine y0J (c_u32_z (d := d + 1) hZ.nz) ?_
        exact w_lim118 hk hb h38 fun σ4 f4 e4 h4 => ⟨(f1.fL118.tr f2.fL118).tr f4, ZMe hZ e4⟩
  · rw [hR]
    have h38 := hZ.1.choose_spec.2.1
    refine y0J (c_u32_z (d := d + 1) hZ.nz) ?_
    refine ⟨fun z => ?_, fun z => ?_⟩
    · exact w_lim118 hk hb h38 fun σ4 f4 e4 h4 => ⟨f1.fL118.tr f4, ZMe hZ e4⟩
    · refine y0J (c_u32_z (d := d + 1) hZ.nz) ?_
      exact w_lim118 hk hb h38 fun σ4 f4 e4 h4 => ⟨f1.fL118.tr f4, ZMe hZ e4⟩
def rL120 (b k : Nat) (x : Li) (σ : fkS) : Prop := k = 0 → σ.2.1 120 b = lN x.1 ∧ σ.2.1 121 b = lM x.2
def sL120 (b k c j : Nat) : Bool := fM c j || (Nat.beq k 0 && ((Nat.beq c 120 && Nat.beq j b) || (Nat.beq c 121 && Nat.beq j b)))
theorem Fr.fL120 {b k : Nat} {σ σ' : fkS} (h : Fr fM σ σ') : Fr (sL120 b k) σ σ' := h.mono fun c j h => by unfold sL120; rw [h]; rfl
theorem sL120a (b : Nat) : sL120 b 0 120 b = true := by unfold sL120; simp
theorem sL120b (b : Nat) : sL120 b 0 121 b = true := by unfold sL120; simp
theorem w_lim120 {k : Nat} {a s : Int64} (hk : k < 60) (hb : b < 2) (h38 : σ.1 103 38 = nI b) {Q : Option Value → fkS → Prop} (ok : ∀ σ', Fr (sL120 b k) σ σ' → σ'.1 = σ.1 → (k = 0 → σ'.2.1 120 b = a ∧ σ'.2.1 121 b = s) → Q none σ') : Wq 254 (d + 3) 30 [some (.ref 103), some (.int (nI k)), some (.ref 120), some (.ref 121), none, some (.long a), none, none, none] [.long s] σ Q := by
  refine S_M_limits_v1_30 ⟨fun z => ?_, fun z => ?_⟩
  · have hk0 : k = 0 := by
      have := (nI_leI (b := 0) (by omega) (by decide)).mp z
      omega
    subst hk0
    rw [h38, nI_clamp (by omega)]
    refine ⟨vp_in_nI hb (by decide), vp_in_nI hb (by decide), ok _ ((Fr.rf.sL (sL120a b)).sL (sL120b b)) rfl fun _ => ⟨?_, sL_ss⟩⟩
    rw [sL_o (by decide), sL_ss]
  · have hk0 : k ≠ 0 := fun y => z (by rw [y]; decide)
    exact ok σ Fr.rf rfl fun y => absurd y hk0
theorem m_limits120 {k : Nat} (hk : k < 60) (h : RM t b n e p σ) (hf : σ.1 103 42 = 0) : Cv (d + 3) 254 [.ref 103, .int (nI k), .ref 120, .ref 121] σ (fun σ' => YM t b n e (sL120 b k) (rL120 b k) (pLi t e p) σ σ') := by
  have hb := h.1
  have ZMe : ∀ {w pl : Int32} {σ1 σ2 : fkS}, ZM t b n e w pl σ1 → σ2.1 = σ1.1 → ZM t b n e w pl σ2 := by
    intro w pl σ1 σ2 hZ h1
    obtain ⟨⟨q, a0, a1, a2, a3, a4, a5, a6, a7⟩, b1, b2, b3⟩ := hZ
    refine ⟨⟨q, a0, ?_, ?_, a3, a4, ?_, ?_, a7⟩, b1, ?_, ?_⟩ <;> rw [h1] <;> assumption
  refine S_M_limits_v1 ?_
  rw [pLi_01]
  refine qYI (m01 (d := d) h hf) (fun fl q r σ1 hR f1 hv hR1 hf1 => ?_) fun w pl r σ1 hR f1 hZ => ?_
  · subst hv
    obtain ⟨hfl, -, -, -⟩ := p01_le hR
    rw [hR]
    simp only [bR]
    refine qJ hR1 hf1 (mU hR1 hf1) (fun a q2 r hR2 hv hR3 hf3 => ?_) fun w pl r σ2 hR2 hr0 hZ f2 => ?_
    · subst hv
      rw [hR2]
      simp only
      refine ⟨fun z => ?_, fun z => ?_⟩
      · have hv0 : fl ≠ 1 := fun y => z (by rw [y]; rfl)
        unfold pLi2
        rw [if_neg hv0]
        refine w_lim120 hk hb hR3.2.1 fun σ3 f3 e3 h3 => ⟨(f1.fL120.tr okM_fr.fL120).tr f3, h3, ?_, ?_⟩
        · obtain ⟨a0, a1, a2, a3, a4, a5, a6, a7⟩ := hR3
          refine ⟨a0, ?_, ?_, a3, a4, ?_, ?_, a7⟩ <;> rw [e3] <;> assumption
        · rw [e3]
          exact hf3
      · have hv1 : fl = 1 := (nI_eq (b := 1) (by omega) (by decide)).mp z
        unfold pLi2
        rw [if_pos hv1]
        refine qJ hR3 hf3 (mU hR3 hf3) (fun c q3 r hR4 hv hR5 hf5 => ?_) fun w pl r σ3 hR4 hr0 hZ f3 => ?_
        · subst hv
          rw [hR4]
          refine w_lim120 hk hb hR5.2.1 fun σ4 f4 e4 h4 => ⟨((f1.fL120.tr okM_fr.fL120).tr okM_fr.fL120).tr f4, h4, ?_, ?_⟩
          · obtain ⟨a0, a1, a2, a3, a4, a5, a6, a7⟩ := hR5
            refine ⟨a0, ?_, ?_, a3, a4, ?_, ?_, a7⟩ <;> rw [e4] <;> assumption
          · rw [e4]
            exact hf5
        · rw [hR4]
          refine w_lim120 hk hb ?_ fun σ4 f4 e4 h4 => ⟨((f1.fL120.tr okM_fr.fL120).tr f3.fL120).tr f4, ZMe hZ e4⟩
          exact hZ.1.choose_spec.2.1
    · subst hr0
      rw [hR2]
      have h38 := hZ.1.choose_spec.2.1
      refine ⟨fun z => ?_, fun z => ?_⟩
      · exact w_lim120 hk hb h38 fun σ4 f4 e4 h4 => ⟨(f1.fL120.tr f2.fL120).tr f4, ZMe hZ e4⟩
      · refine y0J (c_u32_z (d := d + 1) hZ.nz) ?_
        exact w_lim120 hk hb h38 fun σ4 f4 e4 h4 => ⟨(f1.fL120.tr f2.fL120).tr f4, ZMe hZ e4⟩
  · rw [hR]
    have h38 := hZ.1.choose_spec.2.1
    refine y0J (c_u32_z (d := d + 1) hZ.nz) ?_
    refine ⟨fun z => ?_, fun z => ?_⟩
    · exact w_lim120 hk hb h38 fun σ4 f4 e4 h4 => ⟨f1.fL120.tr f4, ZMe hZ e4⟩
    · refine y0J (c_u32_z (d := d + 1) hZ.nz) ?_
      exact w_lim120 hk hb h38 fun σ4 f4 e4 h4 => ⟨f1.fL120.tr f4, ZMe hZ e4⟩
/-! CONSTANT EXPRESSIONS -/
def sCM (c j : Nat) : Bool := fM c j || (Nat.beq c 103 && Nat.beq j 45)
theorem Fr.fCM {σ σ' : fkS} (h : Fr fM σ σ') : Fr sCM σ σ' := h.mono fun c j h => by unfold sCM; rw [h]; rfl
theorem rf_con : ∀ v : Fin 256, rfz v.val = true → v.val ≠ 65 ∧ v.val ≠ 66 ∧ v.val ≠ 35 := by decide +kernel
theorem m_constant (h : RM t b n e p σ) (hf : σ.1 103 42 = 0) : Ci (d + 4) 255 [.ref 103] σ (fun r σ' => YMI t b n e sCM (fun c r σ' => r = nI c.1 ∧ σ'.2.1 103 45 = c.2) (pCo t e p) σ r σ') := by
  have hp1 : σ.1 103 40 = nI p := h.2.2.2.2.2.2.1
  refine S_M_constant ?_
  rw [hp1]
  -- the number has come: the 11 is left
  have rest : ∀ (op q : Nat) (v : Int64) (q1 : Nat) (σ1 : fkS), pOp t e p = .inl (op, q) → pCn t e op q = .inl (v, q1) → RM t b n e q1 σ1 → σ1.1 103 42 = 0 → Fr fM σ (sL σ1 103 45 0) ∨ Fr sCM σ σ1 → Cv (d + 3) 241 [.ref 103, .int (11 : Int32)] (sL σ1 103 45 v) (fun σ9 => YMI t b n e sCM (fun c r σ' => r = nI c.1 ∧ σ'.2.1 103 45 = c.2) (pCo t e p) σ (nI op) σ9) := by
    intro op q v q1 σ1 ho hc hR1 hf1 hfr
    have fr : Fr sCM σ (sL σ1 103 45 v) := by
      rcases hfr with f | f
      · have f2 : Fr sCM σ (sL (sL σ1 103 45 0) 103 45 v) := f.fCM.sL rfl
        have e2 : sL (sL σ1 103 45 0) 103 45 v = sL σ1 103 45 v := by
          unfold sL
          refine Prod.ext rfl (Prod.ext ?_ rfl)
          funext a i
          by_cases e : a = 103 <;> by_cases e2 : i = 45 <;> simp [e, e2]
        rw [e2] at f2
        exact f2
      · exact f.sL rfl
    have hp : pCo t e p = bR (rX 11 t e q1) fun _ q2 => .inl ((op, v), q2) := by
      unfold pCo
      rw [ho]
      show bR (pCv t e op q) _ = _
      unfold pCv
      rw [hc]
      show bR (bR (rX 11 t e q1) _) _ = _
      cases rX 11 t e q1 <;> rfl
    refine qV (hR1.sL (c := 103) (j := 45) (v := v)) hf1 (c_must (d := d) hR1.sL hf1) (fun _ q2 hR2 hR3 hf3 => ?_) fun w pl σ2 hR2 hZ f2 => ?_
    · refine ⟨fr.tr okM_fr.fCM, ?_⟩
      rw [hp, hR2]
      exact ⟨⟨rfl, sL_ss⟩, hR3, hf3⟩
    · refine ⟨fr.tr f2.fCM, ?_⟩
      rw [hp, hR2]
      exact hZ
  have zend : ∀ (x : Int32) (w pl : Int32) (σ1 : fkS), pCo t e p = .inr (w, pl) → ZM t b n e w pl σ1 → Fr sCM σ σ1 → Cv (d + 3) 241 [.ref 103, .int (11 : Int32)] σ1 (fun σ9 => YMI t b n e sCM (fun c r σ' => r = nI c.1 ∧ σ'.2.1 103 45 = c.2) (pCo t e p) σ x σ9) := by
    intro x w pl σ1 hp hZ f1
    refine y0V (c_mustz (d := d) hZ.nz) ⟨f1, ?_⟩
    rw [hp]
    exact hZ
  refine qI h hf (mN h hf) (fun op q r hR hv hR1 hf1 => ?_) fun w pl r σ1 hR hr0 hZ f1 => ?_
  · subst hv
    have hop := (nN_l hR).2.1
    have ho : op < 256 := by have := (t p).toNat_lt; omega
    have hpo : pOp t e p = if rfz op = true then .inr (-2, nI p) else if op = 65 ∨ op = 66 ∨ op = 35 then .inl (op, q) else .inr (-1, nI p) := by unfold pOp; rw [hR]; rfl
    refine c_refusedM.mono fun x σ2 hx => ?_
    obtain ⟨r, rfl, rfl, rfl⟩ := Qi_s hx
    show (_ → _) ∧ (_ → _)
    have fs : Fr sCM σ (sL (okM σ q) 103 45 0) := okM_fr.fCM.sL rfl
    have hR2 : RM t b n e q (sL (okM σ q) 103 45 0) := hR1.sL
    refine ⟨fun z => ?_, fun z => ?_⟩
    · have hz : rfz op = false := b2i_0.mp z
      rw [hz, if_neg (by decide)] at hpo
      have hq2 : ∀ {b : Nat} {x : Int32}, b < 256 → x = nI b → (nI op = x ↔ op = b) := fun hb hx => op_nat ho hb hx
      have sgn : ∀ (W : Bool), (op = 65 ∨ op = 66) → decide (op = 65) = W → Cj (d + 3) 257 [.ref 103, .int (sWd W)] (sL (okM σ q) 103 45 0) (fun x14 σ13 => Cv (d + 3) 241 [.ref 103, .int (11 : Int32)] (sL σ13 103 45 x14) (fun σ15 => YMI t b n e sCM (fun c r σ' => r = nI c.1 ∧ σ'.2.1 103 45 = c.2) (pCo t e p) σ (nI op) σ15)) := by
        intro W h65 hW
        have hpo2 : pOp t e p = .inl (op, q) := by rw [hpo, if_pos (by omega)]
        have hcn : pCn t e op q = rG W t e q := by unfold pCn; rw [if_neg (by omega), hW]
        refine qJ hR2 hf1 (mG hR2 hf1) (fun v q1 r hR3 hv hR4 hf4 => ?_) fun w pl r σ3 hR3 hr0 hZ f3 => ?_
        · subst hv
          exact rest op q r q1 _ hpo2 (hcn.trans hR3) hR4 hf4 (Or.inr (fs.tr okM_fr.fCM))
        · refine zend _ w pl _ ?_ hZ.sL ((fs.tr f3.fCM).sL rfl)
          unfold pCo pCv
          rw [hpo2]
          show bR (bR (pCn t e op q) _) _ = _
          rw [hcn, hR3]
          rfl
      refine ⟨fun z65 => ⟨fun z66 => ⟨fun z35 => ?_, fun z35 => ?_⟩, fun z66 => ?_⟩, fun z65 => ?_⟩
      · have n65 : op ≠ 65 := fun y => z65 ((hq2 (by decide) rfl).mpr y)
        have n66 : op ≠ 66 := fun y => z66 ((hq2 (by decide) rfl).mpr y)
        have n35 : op ≠ 35 := fun y => z35 ((hq2 (by decide) rfl).mpr y)
        rw [if_neg (by omega)] at hpo
        refine qFails hR2 hf1 (by decide) fun σ3 hZ f3 => ?_
        refine zend _ _ _ σ3 ?_ hZ (fs.tr f3.fCM)
        unfold pCo
        rw [hpo]
        rfl
      · have e35 : op = 35 := (hq2 (by decide) rfl).mp z35
        have hpo2 : pOp t e p = .inl (op, q) := by rw [hpo, if_pos (by omega)]
        have hcn : pCn t e op q = nUl t e q := by unfold pCn; rw [if_pos e35]
        refine qJ hR2 hf1 (mU hR2 hf1) (fun v q1 r hR3 hv hR4 hf4 => ?_) fun w pl r σ3 hR3 hr0 hZ f3 => ?_
        · subst hv
          exact rest op q _ q1 _ hpo2 (by rw [hcn]; unfold nUl; rw [hR3]; rfl) hR4 hf4 (Or.inr (fs.tr okM_fr.fCM))
        · refine zend _ w pl _ ?_ hZ.sL ((fs.tr f3.fCM).sL rfl)
          unfold pCo pCv
          rw [hpo2]
          show bR (bR (pCn t e op q) _) _ = _
          rw [hcn]
          unfold nUl
          rw [hR3]
          rfl
      · have e66 : op = 66 := (hq2 (by decide) rfl).mp z66
        exact sgn false (Or.inr e66) (decide_eq_false (by omega))
      · have e65 : op = 65 := (hq2 (by decide) rfl).mp z65
        exact sgn true (Or.inl e65) (decide_eq_true e65)
    · have hz : rfz op = true := by
        cases hh : rfz op
        · exact absurd (b2i_0.mpr hh) z
        · rfl
      rw [if_pos hz] at hpo
      refine qFails hR2 hf1 (by decide) fun σ3 hZ f3 => ?_
      refine zend _ _ _ σ3 ?_ hZ (fs.tr f3.fCM)
      unfold pCo
      rw [hpo]
      rfl
  · subst hr0
    have hp : pCo t e p = .inr (w, pl) := by
      unfold pCo pOp
      rw [hR]
      rfl
    refine c_refusedM.mono fun x σ2 hx => ?_
    obtain ⟨r, rfl, rfl, rfl⟩ := Qi_s hx
    show (_ → _) ∧ (_ → _)
    have fs : Fr sCM σ (sL σ1 103 45 0) := f1.fCM.sL rfl
    refine ⟨fun _ => ⟨fun _ => ⟨fun _ => ⟨fun _ => yFails hZ.sL (zend _ w pl _ hp hZ.sL fs), fun z => absurd z (by decide)⟩, fun z => absurd z (by decide)⟩, fun z => absurd z (by decide)⟩, fun z => absurd (by decide) z⟩
theorem m_constantz {w pl : Int32} (h : ZM t b n e w pl σ) : Ci (d + 4) 255 [.ref 103] σ (fun _ σ' => Fr sCM σ σ' ∧ ZM t b n e w pl σ') := by
  refine S_M_constant (y0I (c_nextMz (d := d + 2) h.nz) ?_)
  refine c_refusedM.mono fun x σ2 hx => ?_
  obtain ⟨r, rfl, rfl, rfl⟩ := Qi_s hx
  show (_ → _) ∧ (_ → _)
  have hZ : ZM t b n e w pl (sL σ 103 45 0) := h.sL
  have fin : ∀ x, Cv (d + 3) 241 [.ref 103, .int (11 : Int32)] (sL σ 103 45 0) (fun σ6 => (Qi fun _ σ' => Fr sCM σ σ' ∧ ZM t b n e w pl σ') (some (.int x)) σ6) := fun x => y0V (c_mustz (d := d) hZ.nz) ⟨Fr.rf.sL rfl, hZ⟩
  exact ⟨fun _ => ⟨fun _ => ⟨fun _ => ⟨fun _ => yFails hZ (fin _), fun z => absurd z (by decide)⟩, fun z => absurd z (by decide)⟩, fun z => absurd z (by decide)⟩, fun z => absurd (by decide) z⟩
end LIM
