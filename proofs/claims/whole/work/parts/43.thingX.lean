/-! THINGS OF A MODULE, as both sides read them; the class's rows -/
def YR (t : Nat → UInt8) (n e : Nat) (S : Nat → Nat → Bool) {α : Type} (Rel : α → fkS → Prop) (R : Rr α) (σ σ' : fkS) : Prop := Fr S σ σ' ∧ match R with
  | .inl (a, q) => Rel a σ' ∧ RX t n e q σ' ∧ σ'.1 46 3 = 0
  | .inr (w, pl) => ZX t n e w pl σ'
theorem kY {t : Nat → UInt8} {n e d k : Nat} {as : List Value} {σ : fkS} {S : Nat → Nat → Bool} {α : Type} {Rel : α → fkS → Prop} {R : Rr α} (hD : Dv d k as σ (fun σ' => YR t n e S Rel R σ σ')) {P : fkS → Prop}
    (ok : ∀ a q σ', R = .inl (a, q) → σ'.2.2 = σ.2.2 → Fr S σ σ' → Rel a σ' → RX t n e q σ' → σ'.1 46 3 = 0 → P σ')
    (ft : ∀ w pl σ', R = .inr (w, pl) → σ'.2.2 = σ.2.2 → Fr S σ σ' → ZX t n e w pl σ' → P σ') : Dv d k as σ P := by
  refine hD.mono fun x σ1 hx => ?_
  obtain ⟨rfl, hr, hf, hu⟩ := Qv_s hx
  refine ⟨hr, ?_⟩
  split at hu
  next a q => exact ok a q _ rfl hr hf hu.1 hu.2.1 hu.2.2
  next w pl => exact ft w pl _ rfl hr hf hu
def YI (t : Nat → UInt8) (n e : Nat) (S : Nat → Nat → Bool) {α ρ : Type} (Rel : α → ρ → fkS → Prop) (R : Rr α) (σ : fkS) (r : ρ) (σ' : fkS) : Prop := Fr S σ σ' ∧ match R with
  | .inl (a, q) => Rel a r σ' ∧ RX t n e q σ' ∧ σ'.1 46 3 = 0
  | .inr (w, pl) => ZX t n e w pl σ'
theorem kYI {t : Nat → UInt8} {n e d k : Nat} {as : List Value} {σ : fkS} {S : Nat → Nat → Bool} {α : Type} {Rel : α → Int32 → fkS → Prop} {R : Rr α} (hD : Di d k as σ (fun r σ' => YI t n e S Rel R σ r σ')) {P : Int32 → fkS → Prop}
    (ok : ∀ a q r σ', R = .inl (a, q) → σ'.2.2 = σ.2.2 → Fr S σ σ' → Rel a r σ' → RX t n e q σ' → σ'.1 46 3 = 0 → P r σ')
    (ft : ∀ w pl r σ', R = .inr (w, pl) → σ'.2.2 = σ.2.2 → Fr S σ σ' → ZX t n e w pl σ' → P r σ') : Di d k as σ P := by
  refine hD.mono fun x σ1 hx => ?_
  obtain ⟨r, rfl, hr, hf, hu⟩ := Qi_s hx
  refine ⟨hr, ?_⟩
  split at hu
  next a q => exact ok a q r _ rfl hr hf hu.1 hu.2.1 hu.2.2
  next w pl => exact ft w pl r _ rfl hr hf hu
theorem kYJ {t : Nat → UInt8} {n e d k : Nat} {as : List Value} {σ : fkS} {S : Nat → Nat → Bool} {α : Type} {Rel : α → Int64 → fkS → Prop} {R : Rr α} (hD : Dj d k as σ (fun r σ' => YI t n e S Rel R σ r σ')) {P : Int64 → fkS → Prop}
    (ok : ∀ a q r σ', R = .inl (a, q) → σ'.2.2 = σ.2.2 → Fr S σ σ' → Rel a r σ' → RX t n e q σ' → σ'.1 46 3 = 0 → P r σ')
    (ft : ∀ w pl r σ', R = .inr (w, pl) → σ'.2.2 = σ.2.2 → Fr S σ σ' → ZX t n e w pl σ' → P r σ') : Dj d k as σ P := by
  refine hD.mono fun x σ1 hx => ?_
  obtain ⟨r, rfl, hr, hf, hu⟩ := Qj_s hx
  refine ⟨hr, ?_⟩
  split at hu
  next a q => exact ok a q r _ rfl hr hf hu.1 hu.2.1 hu.2.2
  next w pl => exact ft w pl r _ rfl hr hf hu
/-- a part of the reader's own cells -/
def gX46 (c : Nat) : Bool := Nat.beq c 46 || Nat.beq c 25
theorem RX.sI {t : Nat → UInt8} {n e p c j : Nat} {v : Int32} {σ : fkS} (h : RX t n e p σ) (hc : gX46 c = false) : RX t n e p (sI σ c j v) := by
  have h1 : c ≠ 46 := fun z => by subst z; cases hc
  have h2 : c ≠ 25 := fun z => by subst z; cases hc
  obtain ⟨a1, a2, a3, a4, a5, a6, a7, a8⟩ := h
  refine ⟨a1, fun k hk => ?_, a3, a4, ?_, ?_, a7, ?_⟩
  · rw [sI_o (fun z => h2 z.symm)]; exact a2 k hk
  · rw [sI_o (fun z => h1 z.symm)]; exact a5
  · rw [sI_o (fun z => h1 z.symm)]; exact a6
  · rw [sI_o (fun z => h1 z.symm)]; exact a8
theorem RX.sL {t : Nat → UInt8} {n e p c j : Nat} {v : Int64} {σ : fkS} (h : RX t n e p σ) : RX t n e p (sL σ c j v) := h
theorem ZX.sI {t : Nat → UInt8} {n e c j : Nat} {w pl : Int32} {v : Int32} {σ : fkS} (h : ZX t n e w pl σ) (hc : gX46 c = false) : ZX t n e w pl (sI σ c j v) := by
  have h1 : c ≠ 46 := fun z => by subst z; cases hc
  obtain ⟨⟨q, a1⟩, a2, a3, a4⟩ := h
  refine ⟨⟨q, a1.sI hc⟩, a2, ?_, ?_⟩
  · rw [sI_o (fun z => h1 z.symm)]; exact a3
  · rw [sI_o (fun z => h1 z.symm)]; exact a4
theorem ZX.sL {t : Nat → UInt8} {n e c j : Nat} {w pl : Int32} {v : Int64} {σ : fkS} (h : ZX t n e w pl σ) : ZX t n e w pl (sL σ c j v) := h
theorem f0_sI {c j : Nat} {v : Int32} {σ : fkS} (h : σ.1 46 3 = 0) (hc : gX46 c = false) : (sI σ c j v).1 46 3 = 0 := by
  have h1 : c ≠ 46 := fun z => by subst z; cases hc
  rw [sI_o (fun z => h1 z.symm)]
  exact h
/-! lists that grow at their end -/
theorem get_snoc {α : Type} {l : List α} {x y : α} {k : Nat} (h : (l ++ [x])[k]? = some y) : l[k]? = some y ∧ k < l.length ∨ k = l.length ∧ y = x := by
  by_cases hk : k < l.length
  · rw [List.getElem?_append_left hk] at h
    exact Or.inl ⟨h, hk⟩
  · rw [List.getElem?_append_right (by omega)] at h
    have h2 := List.getElem?_eq_some_iff.mp h
    obtain ⟨h3, h4⟩ := h2
    simp at h3
    have h5 : k = l.length := by omega
    refine Or.inr ⟨h5, ?_⟩
    subst h5
    simpa using h4.symm
/-! TYPES -/
abbrev Ty : Type := Nat × Nat × Nat
def pTs (t : Nat → UInt8) (e : Nat) : Nat → Nat → Rr Unit
  | 0, p => .inl ((), p)
  | k + 1, p => bR (nT t e p) fun _ q => pTs t e k q
def pTy4 (t : Nat → UInt8) (e : Nat) (p2 n p3 p4 m : Nat) : Rr Ty := if m ≤ 1 then (if m = 1 then bR (nT t e p4) fun g p5 => .inl ((p2, n, g), p5) else .inl ((p2, n, 0), p4)) else .inr (-1, nI p3)
def pTy3 (t : Nat → UInt8) (e : Nat) (p2 n p3 : Nat) : Rr Ty := bR (nV t e p3) fun m p4 => pTy4 t e p2 n p3 p4 m
def pTy (t : Nat → UInt8) (e p : Nat) : Rr Ty := bR (rX 96 t e p) fun _ p1 => bR (nV t e p1) fun n p2 => bR (pTs t e n p2) fun _ p3 => pTy3 t e p2 n p3
/-- the class's rows of types -/
def DT (l : List Ty) (σ : fkS) : Prop := σ.1 24 1 = nI l.length ∧ ∀ k x, l[k]? = some x → σ.1 26 (3 * k) = nI x.1 ∧ σ.1 26 (3 * k + 1) = nI x.2.1 ∧ σ.1 26 (3 * k + 2) = nI x.2.2
def sDT (c j : Nat) : Bool := f46 c j || (Nat.beq c 24 && Nat.beq j 1) || Nat.beq c 26
theorem f46_sDT : ∀ c j, f46 c j = true → sDT c j = true := fun c j h => by unfold sDT; rw [h]; rfl
theorem Fr.f46T {σ σ' : fkS} (h : Fr f46 σ σ') : Fr sDT σ σ' := h.mono f46_sDT
theorem sI3 {σ : fkS} {c j b : Nat} {v : Int32} : (sI σ c j v).1 c b = if b = j then v else σ.1 c b := congrFun sI_s b
/-- rows of three -/
theorem DT.snoc {l : List Ty} {σ σ' : fkS} {x : Ty} (h : ∀ k x, l[k]? = some x → σ.1 26 (3 * k) = nI x.1 ∧ σ.1 26 (3 * k + 1) = nI x.2.1 ∧ σ.1 26 (3 * k + 2) = nI x.2.2) (hc : σ'.1 24 1 = nI (l.length + 1)) (hl : ∀ j, j < 3 * l.length → σ'.1 26 j = σ.1 26 j) (h0 : σ'.1 26 (3 * l.length) = nI x.1) (h1 : σ'.1 26 (3 * l.length + 1) = nI x.2.1) (h2 : σ'.1 26 (3 * l.length + 2) = nI x.2.2) : DT (l ++ [x]) σ' := by
  refine ⟨by rw [hc, List.length_append]; rfl, fun k y hy => ?_⟩
  rcases get_snoc hy with ⟨hy, hk⟩ | ⟨rfl, rfl⟩
  · obtain ⟨a1, a2, a3⟩ := h k y hy
    exact ⟨(hl _ (by omega)).trans a1, (hl _ (by omega)).trans a2, (hl _ (by omega)).trans a3⟩
  · exact ⟨h0, h1, h2⟩
theorem w_type138z {d n e v5 : Nat} {t : Nat → UInt8} {w pl : Int32} {σ : fkS} (h : ZX t n e w pl σ) {row : Nat} (hrow : row + 2 < 180) (hv : v5 ≤ 60) : Wq 50 (d + 3) 138 [some (.ref 45), some (.ref 24), some (.int (nI row)), none, none, some (.int (nI v5))] [] σ (Qv fun σ' => σ'.2.2 = σ.2.2 ∧ Fr sDT σ σ' ∧ ZX t n e w pl σ') := by
  have e2 : nI row + (2 : Int32) = nI (row + 2) := nI_add row 2
  have hin : vp_in (nI row + (2 : Int32)) 180 := by rw [e2]; exact vp_in_nI hrow (by decide)
  refine S_ModuleReader_type_138 ⟨fun _ => ⟨hin, rfl, (Fr.rf.sI rfl).sI rfl, (h.sI rfl).sI rfl⟩, fun _ => ?_⟩
  refine zFine h ⟨fun _ => ⟨hin, rfl, (Fr.rf.sI rfl).sI rfl, (h.sI rfl).sI rfl⟩, fun z => absurd rfl z⟩
theorem w_type138 {d n e p2 m p3 p4 v5 : Nat} {t : Nat → UInt8} {l : List Ty} {σ : fkS} (h : RX t n e p4 σ) (hf : σ.1 46 3 = 0) (hl : l.length < 60) (hr : ∀ k x, l[k]? = some x → σ.1 26 (3 * k) = nI x.1 ∧ σ.1 26 (3 * k + 1) = nI x.2.1 ∧ σ.1 26 (3 * k + 2) = nI x.2.2) (hc : σ.1 24 1 = nI l.length) (h0 : σ.1 26 (3 * l.length) = nI p2) (h1 : σ.1 26 (3 * l.length + 1) = nI m) (hv : v5 ≤ 1) : Wq 50 (d + 3) 138 [some (.ref 45), some (.ref 24), some (.int (nI (3 * l.length))), none, none, some (.int (nI v5))] [] σ (Qv fun σ' => σ'.2.2 = σ.2.2 ∧ YR t n e sDT (fun x => DT (l ++ [x])) (pTy4 t e p2 m p3 p4 v5) σ σ') := by
  have e2 : nI (3 * l.length) + (2 : Int32) = nI (3 * l.length + 2) := nI_add _ 2
  have hin : vp_in (nI (3 * l.length) + (2 : Int32)) 180 := by rw [e2]; exact vp_in_nI (by omega) (by decide)
  have ec : (nI (3 * l.length) + (2 : Int32)).toNatClampNeg = 3 * l.length + 2 := by rw [e2]; exact nI_clamp (by omega)
  have fin : ∀ (σ2 : fkS) (g : Nat), Fr f46 σ σ2 → DT (l ++ [(p2, m, g)]) (sI (sI σ2 26 ((nI (3 * l.length) + (2 : Int32)).toNatClampNeg) (nI g)) 24 1 ((σ2.1 24 1) + (1 : Int32))) := by
    intro σ2 g f
    have k26 : ∀ j, σ2.1 26 j = σ.1 26 j := fun j => (f 26 j rfl).1
    have k24 : σ2.1 24 1 = σ.1 24 1 := (f 24 1 rfl).1
    rw [ec]
    refine DT.snoc (σ := σ) hr ?_ (fun j hj => ?_) ?_ ?_ ?_
    · rw [sI_ss, k24, hc]
      exact nI_1 _
    · rw [sI_o (by decide), sI_so (by omega)]
      exact k26 j
    · rw [sI_o (by decide), sI_so (by omega)]
      exact (k26 _).trans h0
    · rw [sI_o (by decide), sI_so (by omega)]
      exact (k26 _).trans h1
    · rw [sI_o (by decide), sI_ss]
  refine S_ModuleReader_type_138 ⟨fun z => ⟨hin, rfl, (Fr.rf.sI rfl).sI rfl, ?_⟩, fun z => ?_⟩
  · have hv0 : v5 ≠ 1 := fun y => z (by rw [y]; rfl)
    unfold pTy4
    rw [if_pos hv, if_neg hv0]
    exact ⟨fin σ 0 Fr.rf, (h.sI rfl).sI rfl, f0_sI (f0_sI hf rfl) rfl⟩
  · have hv1 : v5 = 1 := (nI_eq (b := 1) (by omega) (by decide)).mp z
    refine kFine h hf ⟨fun z => absurd z (by decide), fun _ => ?_⟩
    simp only [sW_id]
    unfold pTy4
    rw [if_pos hv, if_pos hv1]
    refine kI h hf (cT h hf) (fun g q r hR hv e1 hR1 hf1 => ?_) fun w pl r σ1 hR _ e1 hZ f1 => ?_
    · subst hv
      refine ⟨hin, rfl, ((okX_fr.f46T).sI rfl).sI rfl, ?_⟩
      rw [hR]
      exact ⟨fin (okX σ q) g okX_fr, (hR1.sI rfl).sI rfl, f0_sI (f0_sI hf1 rfl) rfl⟩
    · simp only [sW_eq e1]
      refine ⟨hin, e1, ((f1.f46T).sI rfl).sI rfl, ?_⟩
      rw [hR]
      exact (hZ.sI rfl).sI rfl
theorem w_type93z {d n e : Nat} {t : Nat → UInt8} {w pl : Int32} {σ : fkS} (h : ZX t n e w pl σ) {row : Nat} : Wq 50 (d + 3) 93 [some (.ref 45), some (.ref 24), some (.int (nI row)), none, none, none] [] σ (Qv fun σ' => σ'.2.2 = σ.2.2 ∧ Fr sDT σ σ' ∧ ZX t n e w pl σ') :=
  S_ModuleReader_type_93 (zFine h ⟨fun z => absurd rfl z, fun _ => ⟨rfl, Fr.rf, h⟩⟩)
theorem w_type93 {d n e p2 m p3 : Nat} {t : Nat → UInt8} {l : List Ty} {σ : fkS} (h : RX t n e p3 σ) (hf : σ.1 46 3 = 0) (hl : l.length < 60) (hr : ∀ k x, l[k]? = some x → σ.1 26 (3 * k) = nI x.1 ∧ σ.1 26 (3 * k + 1) = nI x.2.1 ∧ σ.1 26 (3 * k + 2) = nI x.2.2) (hc : σ.1 24 1 = nI l.length) (h0 : σ.1 26 (3 * l.length) = nI p2) (h1 : σ.1 26 (3 * l.length + 1) = nI m) : Wq 50 (d + 3) 93 [some (.ref 45), some (.ref 24), some (.int (nI (3 * l.length))), none, none, none] [] σ (Qv fun σ' => σ'.2.2 = σ.2.2 ∧ YR t n e sDT (fun x => DT (l ++ [x])) (pTy3 t e p2 m p3) σ σ') := by
  refine S_ModuleReader_type_93 (kFine h hf ⟨fun _ => ?_, fun z => absurd z (by decide)⟩)
  simp only [sW_id]
  refine kI h hf (cV h hf) (fun v q r hR hv e1 hR1 hf1 => ?_) fun w pl r σ1 hR hr0 e1 hZ f1 => ?_
  · subst hv
    obtain ⟨-, hv60, -, -⟩ := nV_l hR
    have hp3 : pTy3 t e p2 m p3 = pTy4 t e p2 m p3 q v := by unfold pTy3; rw [hR]; rfl
    rw [hp3]
    refine ⟨fun z => ?_, fun z => ?_⟩
    · have hv1 : v ≤ 1 := (nI_leI (b := 1) (by omega) (by decide)).mp z
      refine (w_type138 (d := d) (p2 := p2) (m := m) (p3 := p3) hR1 hf1 hl hr hc h0 h1 hv1).mono fun x σ2 hx => ?_
      obtain ⟨rfl, e2, f2, hu⟩ := Qv_s hx
      exact ⟨e2, (okX_fr.f46T).tr f2, hu⟩
    · have hv1 : ¬ v ≤ 1 := fun y => z ((nI_leI (b := 1) (by omega) (by decide)).mpr y)
      refine kFail hR1 hf1 (by decide) fun σ2 e2 hZ f2 => ?_
      simp only [sW_eq (show σ2.2.2 = σ.2.2 from e2)]
      refine (w_type138z (d := d) hZ (row := 3 * l.length) (by omega) hv60).mono fun x σ3 hx => ?_
      obtain ⟨rfl, e3, f3, hu⟩ := Qv_s hx
      refine ⟨e3.trans e2, (okX_fr.f46T).tr ((f2.f46T).tr f3), ?_⟩
      unfold pTy4
      rw [if_neg hv1]
      have hp : σ.1 46 1 = nI p3 := h.2.2.2.2.2.1
      rw [← hp]
      exact hu
  · subst hr0
    simp only [sW_eq e1]
    refine ⟨fun _ => ?_, fun z => absurd (by decide) z⟩
    refine (w_type138z (d := d) (v5 := 0) hZ (row := 3 * l.length) (by omega) (by decide)).mono fun x σ3 hx => ?_
    obtain ⟨rfl, e3, f3, hu⟩ := Qv_s hx
    refine ⟨e3.trans e1, (f1.f46T).tr f3, ?_⟩
    unfold pTy3
    rw [hR]
    exact hu
theorem w_type63 {d n e p2 m p3 : Nat} {t : Nat → UInt8} {l : List Ty} (hl : l.length < 60) (hm : m ≤ 60) : ∀ (k i : Nat) (σ : fkS), i + k = m → RX t n e p3 σ → σ.1 46 3 = 0 → (∀ k x, l[k]? = some x → σ.1 26 (3 * k) = nI x.1 ∧ σ.1 26 (3 * k + 1) = nI x.2.1 ∧ σ.1 26 (3 * k + 2) = nI x.2.2) → σ.1 24 1 = nI l.length → σ.1 26 (3 * l.length) = nI p2 → σ.1 26 (3 * l.length + 1) = nI m → Wq 50 (d + 3) 63 [some (.ref 45), some (.ref 24), some (.int (nI (3 * l.length))), some (.int (nI m)), some (.int (nI i)), none] [] σ (Qv fun σ' => σ'.2.2 = σ.2.2 ∧ YR t n e sDT (fun x => DT (l ++ [x])) (bR (pTs t e k p3) fun _ p3 => pTy3 t e p2 m p3) σ σ')
  | 0, i, σ, hi, h, hf, hr, hc, h0, h1 => by
    refine S_ModuleReader_type_63 ⟨fun _ => ?_, fun z => absurd (nI_le (by omega) (by omega)) z⟩
    exact w_type93 h hf hl hr hc h0 h1
  | k + 1, i, σ, hi, h, hf, hr, hc, h0, h1 => by
    refine S_ModuleReader_type_63 ⟨fun z => absurd z (nI_ge (by omega) (by omega)), fun _ => ?_⟩
    refine kFine h hf ⟨fun z => absurd z (by decide), fun _ => ?_⟩
    simp only [sW_id]
    refine kI h hf (cT h hf) (fun g q r hR hv e1 hR1 hf1 => ?_) fun w pl r σ1 hR _ e1 hZ f1 => ?_
    · have ih := w_type63 (d := d) (n := n) (p2 := p2) (p3 := q) hl hm k (i + 1) (okX σ q) (by omega) hR1 hf1 hr hc h0 h1
      rw [show nI (i + 1) = nI i + 1 from nI_succ i] at ih
      refine ih.mono fun x σ2 hx => ?_
      obtain ⟨rfl, e2, f2, hu⟩ := Qv_s hx
      refine ⟨e2, (okX_fr.f46T).tr f2, ?_⟩
      have hb : bR (pTs t e (k + 1) p3) (fun _ p3 => pTy3 t e p2 m p3) = bR (pTs t e k q) fun _ p3 => pTy3 t e p2 m p3 := by
        rw [pTs, hR]
        rfl
      rw [hb]
      exact hu
    · simp only [sW_eq e1]
      have hb : bR (pTs t e (k + 1) p3) (fun _ p3 => pTy3 t e p2 m p3) = .inr (w, pl) := by
        rw [pTs, hR]
        rfl
      have fin : Wq 50 (d + 3) 93 [some (.ref 45), some (.ref 24), some (.int (nI (3 * l.length))), none, none, none] [] σ1 (Qv fun σ' => σ'.2.2 = σ.2.2 ∧ YR t n e sDT (fun x => DT (l ++ [x])) (bR (pTs t e (k + 1) p3) fun _ p3 => pTy3 t e p2 m p3) σ σ') := by
        refine (w_type93z (d := d) hZ).mono fun x σ2 hx => ?_
        obtain ⟨rfl, e2, f2, hu⟩ := Qv_s hx
        refine ⟨e2.trans e1, (f1.f46T).tr f2, ?_⟩
        rw [hb]
        exact hu
      refine S_ModuleReader_type_63 ⟨fun _ => fin, fun _ => zFine hZ ⟨fun _ => fin, fun z => absurd rfl z⟩⟩
theorem c_type {d n e p : Nat} {t : Nat → UInt8} {l : List Ty} {σ : fkS} (h : RX t n e p σ) (hf : σ.1 46 3 = 0) (hl : l.length < 60) (hD : DT l σ) : Dv (d + 3) 50 [.ref 45, .ref 24] σ (fun σ' => YR t n e sDT (fun x => DT (l ++ [x])) (pTy t e p) σ σ') := by
  obtain ⟨hc, hr⟩ := hD
  have e3 : (3 : Int32) * (σ.1 24 1) = nI (3 * l.length) := by rw [hc, show (3 : Int32) = nI 3 from rfl, nI_mul]
  have z37 : ∀ (σ2 : fkS) (w pl : Int32), ZX t n e w pl σ2 → σ2.2.2 = σ.2.2 → Fr sDT σ σ2 → pTy t e p = .inr (w, pl) → Wq 50 (d + 3) 37 [some (.ref 45), some (.ref 24), some (.int (nI (3 * l.length))), none, none, none] [.int (0 : Int32)] σ2 (Qv fun σ' => σ'.2.2 = σ.2.2 ∧ YR t n e sDT (fun x => DT (l ++ [x])) (pTy t e p) σ σ') := by
    intro σ2 w pl hZ e2 f2 hR
    have e4 : nI (3 * l.length) + (1 : Int32) = nI (3 * l.length + 1) := nI_add _ 1
    refine S_ModuleReader_type_37 ⟨vp_in_nI (by omega) (by decide), by rw [e4]; exact vp_in_nI (by omega) (by decide), ?_⟩
    have hZ2 : ZX t n e w pl (sI (sI σ2 26 (nI (3 * l.length)).toNatClampNeg (σ2.1 46 1)) 26 (nI (3 * l.length) + 1).toNatClampNeg 0) := (hZ.sI rfl).sI rfl
    refine S_ModuleReader_type_63 ⟨fun _ => ?_, fun z => absurd (by decide) z⟩
    refine (w_type93z (d := d) hZ2).mono fun x σ3 hx => ?_
    obtain ⟨rfl, e5, f5, hu⟩ := Qv_s hx
    refine ⟨e5.trans e2, (((f2.sI rfl).sI rfl)).tr f5, ?_⟩
    rw [hR]
    exact hu
  refine S_ModuleReader_type ?_
  rw [e3]
  refine kV h hf (c_expect h hf) (fun _ q hR e1 hR1 hf1 => ?_) fun w pl σ1 hR e1 hZ f1 => ?_
  · refine kFine hR1 hf1 ⟨fun z => absurd z (by decide), fun _ => ?_⟩
    simp only [sW_eq e1, sW_id]
    refine kI hR1 hf1 (cV hR1 hf1) (fun m q2 r hR2 hv e2 hR3 hf3 => ?_) fun w pl r σ2 hR2 hr0 e2 hZ f2 => ?_
    · subst hv
      obtain ⟨-, hm, -, -⟩ := nV_l hR2
      rw [okX_ok] at e2 hR3 hf3 ⊢
      simp only [sW_okX]
      have e4 : nI (3 * l.length) + (1 : Int32) = nI (3 * l.length + 1) := nI_add _ 1
      refine S_ModuleReader_type_37 ⟨vp_in_nI (by omega) (by decide), by rw [e4]; exact vp_in_nI (by omega) (by decide), ?_⟩
      rw [e4, nI_clamp (by omega), nI_clamp (by omega), hR3.2.2.2.2.2.1]
      generalize hτ : sI (sI (okX σ q2) 26 (3 * l.length) (nI q2)) 26 (3 * l.length + 1) (nI m) = τ
      have hf5 : Fr sDT σ τ := by subst hτ; exact ((okX_fr.f46T).sI rfl).sI rfl
      have e5 : τ.2.2 = σ.2.2 := by subst hτ; rfl
      have g1 : RX t n e q2 τ := by subst hτ; exact (hR3.sI rfl).sI rfl
      have g2 : τ.1 46 3 = 0 := by subst hτ; exact f0_sI (f0_sI hf3 rfl) rfl
      have g3 : ∀ k x, l[k]? = some x → τ.1 26 (3 * k) = nI x.1 ∧ τ.1 26 (3 * k + 1) = nI x.2.1 ∧ τ.1 26 (3 * k + 2) = nI x.2.2 := by
        intro k x hx
        have hk := (List.getElem?_eq_some_iff.mp hx).1
        obtain ⟨a1, a2, a3⟩ := hr k x hx
        subst hτ
        refine ⟨?_, ?_, ?_⟩
        · rw [sI_so (by omega), sI_so (by omega)]; exact a1
        · rw [sI_so (by omega), sI_so (by omega)]; exact a2
        · rw [sI_so (by omega), sI_so (by omega)]; exact a3
      have g4 : τ.1 24 1 = nI l.length := by subst hτ; exact hc
      have g5 : τ.1 26 (3 * l.length) = nI q2 := by subst hτ; rw [sI_so (by omega), sI_ss]
      have g6 : τ.1 26 (3 * l.length + 1) = nI m := by subst hτ; exact sI_ss
      clear hτ
      refine (w_type63 (d := d) hl hm m 0 τ (Nat.zero_add m) g1 g2 g3 g4 g5 g6).mono fun x σ3 hx => ?_
      obtain ⟨rfl, e6, f6, hu⟩ := Qv_s hx
      refine ⟨e6.trans e5, hf5.tr f6, ?_⟩
      have hb : pTy t e p = bR (pTs t e m q2) fun _ p3 => pTy3 t e q2 m p3 := by
        unfold pTy
        rw [hR]
        show bR (nV t e q) _ = _
        rw [hR2]
        rfl
      rw [hb]
      exact hu
    · subst hr0
      simp only [sW_eq (e2.trans e1)]
      refine z37 σ2 w pl hZ (e2.trans e1) ((okX_fr.f46T).tr (f2.f46T)) ?_
      unfold pTy
      rw [hR]
      show bR (nV t e q) _ = _
      rw [hR2]
      rfl
  · simp only [sW_eq e1]
    refine zFine hZ ⟨fun _ => ?_, fun z => absurd rfl z⟩
    simp only [sW_eq e1]
    refine z37 σ1 w pl hZ e1 f1.f46T ?_
    unfold pTy
    rw [hR]
    rfl
