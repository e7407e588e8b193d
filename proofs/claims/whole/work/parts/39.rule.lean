/-! RULES FOR A READER'S WALK: a call that reads, its two ends -/
def f46 (c j : Nat) : Bool := Nat.beq c 46 && (Nat.beq j 1 || Nat.beq j 3 || Nat.beq j 4)
/-- the class behind its first fault -/
def ZX (t : Nat → UInt8) (n e : Nat) (w pl : Int32) (σ : fkS) : Prop := (∃ q, RX t n e q σ) ∧ w ≠ 0 ∧ σ.1 46 3 = w ∧ σ.1 46 4 = pl
theorem ZX.nz {t : Nat → UInt8} {n e : Nat} {w pl : Int32} {σ : fkS} (h : ZX t n e w pl σ) : ¬ σ.1 46 3 = 0 := by rw [h.2.2.1]; exact h.2.1
theorem okX_fr {σ : fkS} {q : Nat} : Fr f46 σ (okX σ q) := Fr.rf.sI rfl
theorem ftX_fr {σ : fkS} {q : Nat} {w pl : Int32} : Fr f46 σ (ftX σ q w pl) := ((Fr.rf.sI rfl).sI rfl).sI rfl
theorem RX.ft {t : Nat → UInt8} {n e p q : Nat} {w pl : Int32} {σ : fkS} (h : RX t n e p σ) (hq : q ≤ 4000) (hw : w ≠ 0) : ZX t n e w pl (ftX σ q w pl) := by
  refine ⟨⟨q, ?_⟩, hw, ftX_f _ _ _ _, sI_ss⟩
  obtain ⟨h1, h2, h3, h4, h5, h6, h7, h8⟩ := h
  refine ⟨h1, fun k hk => h2 k hk, h3, h4, h5, rfl, hq, fun z => absurd ((ftX_f σ q w pl).symm.trans z) hw⟩
theorem ZX.ok {t : Nat → UInt8} {n e q : Nat} {w pl : Int32} {σ : fkS} (h : ZX t n e w pl σ) (hq : q ≤ 4000) : ZX t n e w pl (okX σ q) := ⟨⟨q, h.1.choose_spec.at hq⟩, h.2.1, h.2.2.1, h.2.2.2⟩
/-- a reading call, from a state without fault -/
theorem kI {t : Nat → UInt8} {n e p d k : Nat} {as : List Value} {σ : fkS} {α : Type} {R : Rr α} {val : α → Int32 → Prop} {zz : Int32 → Prop} (h : RX t n e p σ) (hf : σ.1 46 3 = 0) (hD : Di d k as σ (fun r σ' => XR R val zz σ r σ')) {P : Int32 → fkS → Prop}
    (ok : ∀ a q r, R = .inl (a, q) → val a r → (okX σ q).2.2 = σ.2.2 → RX t n e q (okX σ q) → (okX σ q).1 46 3 = 0 → P r (okX σ q))
    (ft : ∀ w pl r σ', R = .inr (w, pl) → zz r → σ'.2.2 = σ.2.2 → ZX t n e w pl σ' → Fr f46 σ σ' → P r σ') : Di d k as σ P := by
  refine hD.mono fun x σ1 hx => ?_
  obtain ⟨r, rfl, hr, hu⟩ := Qi_s hx
  refine ⟨hr, ?_⟩
  unfold XR at hu
  split at hu
  next a q => 
    obtain ⟨hv, hq, rfl⟩ := hu
    exact ok a q r rfl hv rfl (h.at hq) ((okX_f σ q).trans hf)
  next w pl =>
    obtain ⟨hw, hz, q, hq, rfl⟩ := hu
    exact ft w pl r _ rfl hz hr (h.ft hq hw) ftX_fr
theorem kJ {t : Nat → UInt8} {n e p d k : Nat} {as : List Value} {σ : fkS} {α : Type} {R : Rr α} {val : α → Int64 → Prop} {zz : Int64 → Prop} (h : RX t n e p σ) (hf : σ.1 46 3 = 0) (hD : Dj d k as σ (fun r σ' => XR R val zz σ r σ')) {P : Int64 → fkS → Prop}
    (ok : ∀ a q r, R = .inl (a, q) → val a r → (okX σ q).2.2 = σ.2.2 → RX t n e q (okX σ q) → (okX σ q).1 46 3 = 0 → P r (okX σ q))
    (ft : ∀ w pl r σ', R = .inr (w, pl) → zz r → σ'.2.2 = σ.2.2 → ZX t n e w pl σ' → Fr f46 σ σ' → P r σ') : Dj d k as σ P := by
  refine hD.mono fun x σ1 hx => ?_
  obtain ⟨r, rfl, hr, hu⟩ := Qj_s hx
  refine ⟨hr, ?_⟩
  unfold XR at hu
  split at hu
  next a q => 
    obtain ⟨hv, hq, rfl⟩ := hu
    exact ok a q r rfl hv rfl (h.at hq) ((okX_f σ q).trans hf)
  next w pl =>
    obtain ⟨hw, hz, q, hq, rfl⟩ := hu
    exact ft w pl r _ rfl hz hr (h.ft hq hw) ftX_fr
theorem kV {t : Nat → UInt8} {n e p d k : Nat} {as : List Value} {σ : fkS} {α : Type} {R : Rr α} (h : RX t n e p σ) (hf : σ.1 46 3 = 0) (hD : Dv d k as σ (fun σ' => XR R (fun _ _ => True) (fun _ => True) σ () σ')) {P : fkS → Prop}
    (ok : ∀ a q, R = .inl (a, q) → (okX σ q).2.2 = σ.2.2 → RX t n e q (okX σ q) → (okX σ q).1 46 3 = 0 → P (okX σ q))
    (ft : ∀ w pl σ', R = .inr (w, pl) → σ'.2.2 = σ.2.2 → ZX t n e w pl σ' → Fr f46 σ σ' → P σ') : Dv d k as σ P := by
  refine hD.mono fun x σ1 hx => ?_
  obtain ⟨rfl, hr, hu⟩ := Qv_s hx
  refine ⟨hr, ?_⟩
  unfold XR at hu
  split at hu
  next a q => 
    obtain ⟨hv, hq, rfl⟩ := hu
    exact ok a q rfl rfl (h.at hq) ((okX_f σ q).trans hf)
  next w pl =>
    obtain ⟨hw, hz, q, hq, rfl⟩ := hu
    exact ft w pl _ rfl hr (h.ft hq hw) ftX_fr
/-- a reading call behind a fault -/
theorem zI {t : Nat → UInt8} {n e d k : Nat} {w pl : Int32} {as : List Value} {σ : fkS} (h : ZX t n e w pl σ) (hD : ∀ p, RX t n e p σ → Di d k as σ (fun _ σ' => ∃ q, q ≤ 4000 ∧ σ' = okX σ q)) {P : Int32 → fkS → Prop}
    (ok : ∀ r q, (okX σ q).2.2 = σ.2.2 → ZX t n e w pl (okX σ q) → P r (okX σ q)) : Di d k as σ P := by
  obtain ⟨p, hp⟩ := h.1
  refine (hD p hp).mono fun x σ1 hx => ?_
  obtain ⟨r, rfl, hr, q, hq, rfl⟩ := Qi_s hx
  exact ⟨hr, ok r q rfl (h.ok hq)⟩
theorem zJ {t : Nat → UInt8} {n e d k : Nat} {w pl : Int32} {as : List Value} {σ : fkS} (h : ZX t n e w pl σ) (hD : ∀ p, RX t n e p σ → Dj d k as σ (fun _ σ' => ∃ q, q ≤ 4000 ∧ σ' = okX σ q)) {P : Int64 → fkS → Prop}
    (ok : ∀ r q, (okX σ q).2.2 = σ.2.2 → ZX t n e w pl (okX σ q) → P r (okX σ q)) : Dj d k as σ P := by
  obtain ⟨p, hp⟩ := h.1
  refine (hD p hp).mono fun x σ1 hx => ?_
  obtain ⟨r, rfl, hr, q, hq, rfl⟩ := Qj_s hx
  exact ⟨hr, ok r q rfl (h.ok hq)⟩
theorem zV {t : Nat → UInt8} {n e d k : Nat} {w pl : Int32} {as : List Value} {σ : fkS} (h : ZX t n e w pl σ) (hD : ∀ p, RX t n e p σ → Dv d k as σ (fun σ' => ∃ q, q ≤ 4000 ∧ σ' = okX σ q)) {P : fkS → Prop}
    (ok : ∀ q, (okX σ q).2.2 = σ.2.2 → ZX t n e w pl (okX σ q) → P (okX σ q)) : Dv d k as σ P := by
  obtain ⟨p, hp⟩ := h.1
  refine (hD p hp).mono fun x σ1 hx => ?_
  obtain ⟨rfl, hr, q, hq, rfl⟩ := Qv_s hx
  exact ⟨hr, ok q rfl (h.ok hq)⟩
theorem zFail {t : Nat → UInt8} {n e d : Nat} {w pl w2 pl2 : Int32} {σ : fkS} (h : ZX t n e w pl σ) {P : fkS → Prop} (ok : P σ) : Dv d 22 [.ref 46, .int w2, .int pl2] σ P := by
  refine c_fail.mono fun x σ1 hx => ?_
  obtain ⟨rfl, hr, rfl⟩ := Qv_s hx
  refine ⟨hr, ?_⟩
  rw [flX_z h.nz]
  exact ok
theorem kFail {t : Nat → UInt8} {n e p d : Nat} {w pl : Int32} {σ : fkS} (h : RX t n e p σ) (hf : σ.1 46 3 = 0) (hw : w ≠ 0) {P : fkS → Prop} (ok : ∀ σ', σ'.2.2 = σ.2.2 → ZX t n e w pl σ' → Fr f46 σ σ' → P σ') : Dv d 22 [.ref 46, .int w, .int pl] σ P := by
  refine c_fail.mono fun x σ1 hx => ?_
  obtain ⟨rfl, hr, rfl⟩ := Qv_s hx
  refine ⟨hr, ?_⟩
  rw [flX_00 h hf] at hr ⊢
  exact ok _ hr (h.ft h.2.2.2.2.2.2.1 hw) ftX_fr
theorem kFine {t : Nat → UInt8} {n e p d : Nat} {σ : fkS} (_h : RX t n e p σ) (hf : σ.1 46 3 = 0) {P : Int32 → fkS → Prop} (ok : P 1 σ) : Di d 20 [.ref 46] σ P := by
  refine (c_fine0 hf).mono fun x σ1 hx => ?_
  obtain ⟨r, rfl, hr, rfl, rfl⟩ := Qi_s hx
  exact ⟨hr, ok⟩
theorem zFine {t : Nat → UInt8} {n e d : Nat} {w pl : Int32} {σ : fkS} (h : ZX t n e w pl σ) {P : Int32 → fkS → Prop} (ok : P 0 σ) : Di d 20 [.ref 46] σ P := by
  refine (c_finez h.nz).mono fun x σ1 hx => ?_
  obtain ⟨r, rfl, hr, rfl, rfl⟩ := Qi_s hx
  exact ⟨hr, ok⟩
theorem sW_id {σ : fkS} : sW σ σ = σ := rfl
theorem sW_okX {σ : fkS} {q : Nat} : sW (okX σ q) σ = okX σ q := rfl
