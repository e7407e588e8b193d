/-! CONSTANT EXPRESSIONS: the class -/
def b2i (b : Bool) : Int32 := cond b 1 0
def rfzI (a : Int32) : Bool := decide (a = 42) || decide (a = 43) || decide (a = 56) || decide (a = 57) || decide (a = 67) || decide (a = 68) || (decide (¬ a < 91) && decide (a ≤ 102)) || (decide (¬ a < 139) && decide (a ≤ 166)) || (decide (¬ a < 168) && decide (a ≤ 171)) || (decide (¬ a < 174) && decide (¬ 191 < a))
def rfz (v : Nat) : Bool := rfzI (nI v)
theorem c_refused {d : Nat} {a : Int32} {σ : fkS} : Di d 37 [.int a] σ (fun r σ' => r = b2i (rfzI a) ∧ σ' = σ) := by
  refine S_CodeReader_isRefused ?_
  repeat' (first | (refine S_CodeReader_isRefused_62 ?_) | (apply And.intro) | (intro _))
  all_goals first | rfl | (simp [rfzI, b2i, *]; done)
theorem c_refusedM {d : Nat} {a : Int32} {σ : fkS} : Ci d 256 [.int a] σ (fun r σ' => r = b2i (rfzI a) ∧ σ' = σ) := by
  refine S_M_isRefused ?_
  repeat' (first | (refine S_M_isRefused_62 ?_) | (apply And.intro) | (intro _))
  all_goals first | rfl | (simp [rfzI, b2i, *]; done)
theorem b2i_0 {b : Bool} : b2i b = 0 ↔ b = false := by cases b <;> decide
def pOp (t : Nat → UInt8) (e p : Nat) : Rr Nat := bR (nN t e p) fun v q => if rfz v = true then .inr (-2, nI p) else if v = 65 ∨ v = 66 ∨ v = 35 then .inl (v, q) else .inr (-1, nI p)
def nUl (t : Nat → UInt8) (e p : Nat) : Rr Int64 := bR (nU t e p) fun B q => .inl (lN B, q)
/-- the number of a constant expression, by its instruction -/
def pCn (t : Nat → UInt8) (e op p : Nat) : Rr Int64 := if op = 35 then nUl t e p else rG (decide (op = 65)) t e p
def pCv (t : Nat → UInt8) (e op p : Nat) : Rr Int64 := bR (pCn t e op p) fun v q => bR (rX 11 t e q) fun _ q2 => .inl (v, q2)
def pCo (t : Nat → UInt8) (e p : Nat) : Rr (Nat × Int64) := bR (pOp t e p) fun op q => bR (pCv t e op q) fun v q2 => .inl ((op, v), q2)
theorem eN {a b : Nat} (ha : a < 2 ^ 31) (hb : b < 2 ^ 31) {x : Int32} (hx : x = nI b) : nI a = x ↔ a = b := by rw [hx]; exact nI_eq ha hb
theorem c_operator {d n e p : Nat} {t : Nat → UInt8} {σ : fkS} (h : RX t n e p σ) (hf : σ.1 46 3 = 0) : Di (d + 2) 53 [.ref 45] σ (fun r σ' => YI t n e f46 (fun B r _ => r = nI B) (pOp t e p) σ r σ') := by
  refine S_ModuleReader_operator (kFine h hf ⟨fun _ => ?_, fun z => absurd z (by decide)⟩)
  simp only [sW_id]
  refine kI h hf (cN h hf) (fun v q r hR hv e1 hR1 hf1 => ?_) fun w pl r σ1 hR hr0 e1 hZ f1 => ?_
  · subst hv
    have hv8 : v < 256 := by have := (nN_l hR).2.1; have := (t p).toNat_lt; omega
    have hp : pOp t e p = if rfz v = true then .inr (-2, nI p) else if v = 65 ∨ v = 66 ∨ v = 35 then .inl (v, q) else .inr (-1, nI p) := by unfold pOp; rw [hR]; rfl
    have hp1 : σ.1 46 1 = nI p := h.2.2.2.2.2.1
    have ft : ∀ w : Int32, w ≠ 0 → pOp t e p = .inr (w, nI p) → Dv (d + 1) 22 [.ref 46, .int w, .int (σ.1 46 1)] (okX σ q) (fun σ7 => (sW σ7 σ).2.2 = σ.2.2 ∧ YI t n e f46 (fun B r _ => r = nI B) (pOp t e p) σ (nI v) (sW σ7 σ)) := by
      intro w hw hq
      refine kFail hR1 hf1 hw fun σ2 e2 hZ f2 => ?_
      simp only [sW_eq (show σ2.2.2 = σ.2.2 from e2)]
      refine ⟨e2, okX_fr.tr f2, ?_⟩
      rw [hq, ← hp1]
      exact hZ
    have okk : pOp t e p = .inl (v, q) → (okX σ q).2.2 = σ.2.2 ∧ YI t n e f46 (fun B r _ => r = nI B) (pOp t e p) σ (nI v) (okX σ q) := by
      intro hq
      refine ⟨rfl, okX_fr, ?_⟩
      rw [hq]
      exact ⟨rfl, hR1, hf1⟩
    simp only [sW_okX]
    refine c_refused.mono fun x σ2 hx => ?_
    obtain ⟨r, rfl, e2, rfl, rfl⟩ := Qi_s hx
    refine ⟨e2, ?_⟩
    simp only [sW_okX]
    refine ⟨fun z => ?_, fun z => ?_⟩
    · have hz : rfz v = false := b2i_0.mp z
      rw [hz] at hp
      refine ⟨fun y => ?_, fun y => ⟨fun y2 => ?_, fun y2 => ⟨fun y3 => ?_, fun y3 => ?_⟩⟩⟩
      · have := (nI_eq (b := 65) (by omega) (by decide)).mp y
        exact okk (by rw [hp, if_neg (by decide), if_pos (Or.inl this)])
      · have := (nI_eq (b := 66) (by omega) (by decide)).mp y2
        exact okk (by rw [hp, if_neg (by decide), if_pos (Or.inr (Or.inl this))])
      · have := (nI_eq (b := 35) (by omega) (by decide)).mp y3
        exact okk (by rw [hp, if_neg (by decide), if_pos (Or.inr (Or.inr this))])
      · refine ft _ (by decide) ?_
        rw [hp, if_neg (by decide), if_neg]
        rintro (rfl | rfl | rfl)
        · exact y rfl
        · exact y2 rfl
        · exact y3 rfl
    · have hz : rfz v = true := by
        cases hh : rfz v
        · exact absurd (b2i_0.mpr hh) z
        · rfl
      rw [if_pos hz] at hp
      exact ft _ (by decide) hp
  · subst hr0
    simp only [sW_eq e1]
    refine c_refused.mono fun x σ2 hx => ?_
    obtain ⟨r, rfl, e2, rfl, rfl⟩ := Qi_s hx
    refine ⟨e2, ?_⟩
    simp only [sW_eq (e2.trans e1)]
    have hp : pOp t e p = .inr (w, pl) := by unfold pOp; rw [hR]; rfl
    refine ⟨fun _ => ⟨fun y => absurd y (by decide), fun _ => ⟨fun y => absurd y (by decide), fun _ => ⟨fun y => absurd y (by decide), fun _ => ?_⟩⟩⟩, fun y => absurd (by decide) y⟩
    refine zFail hZ ?_
    simp only [sW_eq e1]
    refine ⟨e1, f1, ?_⟩
    rw [hp]
    exact hZ
theorem c_operatorz {d n e : Nat} {t : Nat → UInt8} {w pl : Int32} {σ : fkS} (h : ZX t n e w pl σ) {P : Int32 → fkS → Prop} (ok : P 0 σ) : Di (d + 2) 53 [.ref 45] σ P :=
  S_ModuleReader_operator (zFine h ⟨fun z => absurd rfl z, fun _ => ⟨rfl, ok⟩⟩)
theorem c_constantz {d n e : Nat} {t : Nat → UInt8} {w pl : Int32} {a : Int32} {σ : fkS} (h : ZX t n e w pl σ) {P : Int64 → fkS → Prop} (ok : P 0 σ) : Dj (d + 2) 54 [.ref 45, .int a] σ P :=
  S_ModuleReader_constant (zFine h ⟨fun z => absurd rfl z, fun _ => ⟨rfl, ok⟩⟩)
theorem c_constant {d n e p op : Nat} {t : Nat → UInt8} {σ : fkS} (h : RX t n e p σ) (hf : σ.1 46 3 = 0) (ho : op < 256) : Dj (d + 2) 54 [.ref 45, .int (nI op)] σ (fun r σ' => YI t n e f46 (fun v r _ => r = v) (pCv t e op p) σ r σ') := by
  have rest : ∀ (v : Int64) (q : Nat), pCn t e op p = .inl (v, q) → RX t n e q (okX σ q) → (okX σ q).1 46 3 = 0 → Di (d + 1) 20 [.ref 46] (okX σ q) (fun x6 σ5 => ((x6 = 0 → (sW σ5 σ).2.2 = σ.2.2 ∧ YI t n e f46 (fun v r _ => r = v) (pCv t e op p) σ v (sW σ5 σ)) ∧ (¬ x6 = 0 → (Dv (d + 1) 21 [.ref 46, .int (11 : Int32)] (sW σ5 σ) (fun σ7 => (sW σ7 σ).2.2 = σ.2.2 ∧ YI t n e f46 (fun v r _ => r = v) (pCv t e op p) σ v (sW σ7 σ)))))) := by
    intro v q hq hR1 hf1
    refine kFine hR1 hf1 ⟨fun z => absurd z (by decide), fun _ => ?_⟩
    simp only [sW_okX]
    have hp : pCv t e op p = bR (rX 11 t e q) fun _ q2 => .inl (v, q2) := by unfold pCv; rw [hq]; rfl
    refine kV hR1 hf1 (c_expect hR1 hf1) (fun _ q2 hR2 e2 hR3 hf3 => ?_) fun w pl σ2 hR2 e2 hZ f2 => ?_
    · rw [okX_ok] at hR3 hf3 ⊢
      simp only [sW_okX]
      refine ⟨rfl, okX_fr, ?_⟩
      rw [hp, hR2]
      exact ⟨rfl, hR3, hf3⟩
    · simp only [sW_eq (show σ2.2.2 = σ.2.2 from e2)]
      refine ⟨e2, okX_fr.tr f2, ?_⟩
      rw [hp, hR2]
      exact hZ
  have restz : ∀ (v : Int64) (w pl : Int32) (σ1 : fkS), pCn t e op p = .inr (w, pl) → ZX t n e w pl σ1 → σ1.2.2 = σ.2.2 → Fr f46 σ σ1 → Di (d + 1) 20 [.ref 46] σ1 (fun x6 σ5 => ((x6 = 0 → (sW σ5 σ).2.2 = σ.2.2 ∧ YI t n e f46 (fun v r _ => r = v) (pCv t e op p) σ v (sW σ5 σ)) ∧ (¬ x6 = 0 → (Dv (d + 1) 21 [.ref 46, .int (11 : Int32)] (sW σ5 σ) (fun σ7 => (sW σ7 σ).2.2 = σ.2.2 ∧ YI t n e f46 (fun v r _ => r = v) (pCv t e op p) σ v (sW σ7 σ)))))) := by
    intro v w pl σ1 hq hZ e1 f1
    refine zFine hZ ⟨fun _ => ?_, fun z => absurd rfl z⟩
    simp only [sW_eq e1]
    refine ⟨e1, f1, ?_⟩
    have hp : pCv t e op p = .inr (w, pl) := by unfold pCv; rw [hq]; rfl
    rw [hp]
    exact hZ
  refine S_ModuleReader_constant (kFine h hf ⟨fun _ => ⟨fun y => ⟨fun y2 => ?_, fun y2 => ?_⟩, fun y => ?_⟩, fun z => absurd z (by decide)⟩)
  · have d35 : op ≠ 35 := fun z => y (by rw [z]; rfl)
    have d65 : op ≠ 65 := fun z => y2 (by rw [z]; rfl)
    have hc : pCn t e op p = rG false t e p := by unfold pCn; rw [if_neg d35, decide_eq_false d65]
    simp only [sW_id]
    refine kJ h hf (cG (W := false) h hf) (fun v q r hR hv e1 hR1 hf1 => ?_) fun w pl r σ1 hR _ e1 hZ f1 => ?_
    · subst hv
      exact rest _ q (hc.trans hR) hR1 hf1
    · simp only [sW_eq e1]
      exact restz _ w pl σ1 (hc.trans hR) hZ e1 f1
  · have d65 : op = 65 := (nI_eq (b := 65) (by omega) (by decide)).mp y2
    have hc : pCn t e op p = rG true t e p := by unfold pCn; rw [d65]; rfl
    simp only [sW_id]
    refine kJ h hf (cG (W := true) h hf) (fun v q r hR hv e1 hR1 hf1 => ?_) fun w pl r σ1 hR _ e1 hZ f1 => ?_
    · subst hv
      exact rest _ q (hc.trans hR) hR1 hf1
    · simp only [sW_eq e1]
      exact restz _ w pl σ1 (hc.trans hR) hZ e1 f1
  · have d35 : op = 35 := (nI_eq (b := 35) (by omega) (by decide)).mp y
    have hc : pCn t e op p = nUl t e p := by unfold pCn; rw [if_pos d35]
    simp only [sW_id]
    refine kJ h hf (cU h hf) (fun v q r hR hv e1 hR1 hf1 => ?_) fun w pl r σ1 hR _ e1 hZ f1 => ?_
    · subst hv
      exact rest _ q (by rw [hc]; unfold nUl; rw [hR]; rfl) hR1 hf1
    · simp only [sW_eq e1]
      exact restz _ w pl σ1 (by rw [hc]; unfold nUl; rw [hR]; rfl) hZ e1 f1
