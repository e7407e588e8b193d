/-! RULES FOR A READER'S WALK: the reference -/
def fM (c j : Nat) : Bool := Nat.beq c 103 && (Nat.beq j 40 || Nat.beq j 42 || Nat.beq j 43)
/-- the reference behind its first fault -/
def ZM (t : Nat → UInt8) (b n e : Nat) (w pl : Int32) (σ : fkS) : Prop := (∃ q, RM t b n e q σ) ∧ w ≠ 0 ∧ σ.1 103 42 = w ∧ σ.1 103 43 = pl
theorem okM_fr {σ : fkS} {q : Nat} : Fr fM σ (okM σ q) := Fr.rf.sI rfl
theorem ftM_fr {σ : fkS} {q : Nat} {w pl : Int32} : Fr fM σ (ftM σ q w pl) := ((Fr.rf.sI rfl).sI rfl).sI rfl
section RULEM
variable {t : Nat → UInt8} {b n e p d k : Nat} {as : List Value} {σ : fkS}
theorem ZM.nz {w pl : Int32} (h : ZM t b n e w pl σ) : ¬ σ.1 103 42 = 0 := by rw [h.2.2.1]; exact h.2.1
theorem RM.ft {q : Nat} {w pl : Int32} (h : RM t b n e p σ) (hq : q ≤ 4000) (hw : w ≠ 0) : ZM t b n e w pl (ftM σ q w pl) := by
  refine ⟨⟨q, ?_⟩, hw, ftM_f _ _ _ _, sI_ss⟩
  obtain ⟨h0, h1, h2, h3, h4, h5, h6, h7⟩ := h
  exact ⟨h0, h1, fun k hk => h2 k hk, h3, h4, h5, rfl, hq⟩
/-- a reading call, from a state without fault -/
theorem qI {α : Type} {R : Rr α} {val : α → Int32 → Prop} {zz : Int32 → Prop} (h : RM t b n e p σ) (hf : σ.1 103 42 = 0) (hD : Ci d k as σ (fun r σ' => MR R val zz σ r σ')) {P : Int32 → fkS → Prop}
    (ok : ∀ a q r, R = .inl (a, q) → val a r → RM t b n e q (okM σ q) → (okM σ q).1 103 42 = 0 → P r (okM σ q))
    (ft : ∀ w pl r σ', R = .inr (w, pl) → zz r → ZM t b n e w pl σ' → Fr fM σ σ' → P r σ') : Ci d k as σ P := by
  refine hD.mono fun x σ1 hx => ?_
  obtain ⟨r, rfl, hu⟩ := Qi_s hx
  show P r σ1
  unfold MR at hu
  split at hu
  next a q =>
    obtain ⟨hv, hq, rfl⟩ := hu
    exact ok a q r rfl hv (h.at hq) ((okM_f σ q).trans hf)
  next w pl =>
    obtain ⟨hw, hz, q, hq, rfl⟩ := hu
    exact ft w pl r _ rfl hz (h.ft hq hw) ftM_fr
theorem qJ {α : Type} {R : Rr α} {val : α → Int64 → Prop} {zz : Int64 → Prop} (h : RM t b n e p σ) (hf : σ.1 103 42 = 0) (hD : Cj d k as σ (fun r σ' => MR R val zz σ r σ')) {P : Int64 → fkS → Prop}
    (ok : ∀ a q r, R = .inl (a, q) → val a r → RM t b n e q (okM σ q) → (okM σ q).1 103 42 = 0 → P r (okM σ q))
    (ft : ∀ w pl r σ', R = .inr (w, pl) → zz r → ZM t b n e w pl σ' → Fr fM σ σ' → P r σ') : Cj d k as σ P := by
  refine hD.mono fun x σ1 hx => ?_
  obtain ⟨r, rfl, hu⟩ := Qj_s hx
  show P r σ1
  unfold MR at hu
  split at hu
  next a q =>
    obtain ⟨hv, hq, rfl⟩ := hu
    exact ok a q r rfl hv (h.at hq) ((okM_f σ q).trans hf)
  next w pl =>
    obtain ⟨hw, hz, q, hq, rfl⟩ := hu
    exact ft w pl r _ rfl hz (h.ft hq hw) ftM_fr
theorem qV {α : Type} {R : Rr α} (h : RM t b n e p σ) (hf : σ.1 103 42 = 0) (hD : Cv d k as σ (fun σ' => MR R (fun _ _ => True) (fun _ => True) σ () σ')) {P : fkS → Prop}
    (ok : ∀ a q, R = .inl (a, q) → RM t b n e q (okM σ q) → (okM σ q).1 103 42 = 0 → P (okM σ q))
    (ft : ∀ w pl σ', R = .inr (w, pl) → ZM t b n e w pl σ' → Fr fM σ σ' → P σ') : Cv d k as σ P := by
  refine hD.mono fun x σ1 hx => ?_
  obtain ⟨rfl, hu⟩ := Qv_s hx
  show P σ1
  unfold MR at hu
  split at hu
  next a q =>
    obtain ⟨hv, hq, rfl⟩ := hu
    exact ok a q rfl (h.at hq) ((okM_f σ q).trans hf)
  next w pl =>
    obtain ⟨hw, hz, q, hq, rfl⟩ := hu
    exact ft w pl _ rfl (h.ft hq hw) ftM_fr
/-- a call behind a fault, which does nothing -/
theorem y0I (hD : Ci d k as σ (fun r σ' => r = 0 ∧ σ' = σ)) {P : Int32 → fkS → Prop} (ok : P 0 σ) : Ci d k as σ P := by
  refine hD.mono fun x σ1 hx => ?_
  obtain ⟨r, rfl, rfl, rfl⟩ := Qi_s hx
  exact ok
theorem y0J (hD : Cj d k as σ (fun r σ' => r = 0 ∧ σ' = σ)) {P : Int64 → fkS → Prop} (ok : P 0 σ) : Cj d k as σ P := by
  refine hD.mono fun x σ1 hx => ?_
  obtain ⟨r, rfl, rfl, rfl⟩ := Qj_s hx
  exact ok
theorem y0V (hD : Cv d k as σ (fun σ' => σ' = σ)) {P : fkS → Prop} (ok : P σ) : Cv d k as σ P := by
  refine hD.mono fun x σ1 hx => ?_
  obtain ⟨rfl, rfl⟩ := Qv_s hx
  exact ok
theorem yFails {w pl w2 pl2 : Int32} (h : ZM t b n e w pl σ) {P : fkS → Prop} (ok : P σ) : Cv d 244 [.ref 103, .int w2, .int pl2] σ P := by
  refine c_fails.mono fun x σ1 hx => ?_
  obtain ⟨rfl, rfl⟩ := Qv_s hx
  show P _
  rw [flM_z h.nz]
  exact ok
theorem qFails {w pl : Int32} (h : RM t b n e p σ) (hf : σ.1 103 42 = 0) (hw : w ≠ 0) {P : fkS → Prop} (ok : ∀ σ', ZM t b n e w pl σ' → Fr fM σ σ' → P σ') : Cv d 244 [.ref 103, .int w, .int pl] σ P := by
  refine c_fails.mono fun x σ1 hx => ?_
  obtain ⟨rfl, rfl⟩ := Qv_s hx
  show P _
  rw [flM_00 h hf]
  exact ok _ (h.ft h.2.2.2.2.2.2.2 hw) ftM_fr
def gM103 (c j : Nat) : Bool := Nat.beq c 105 || (Nat.beq c 103 && (Nat.beq j 38 || Nat.beq j 40 || Nat.beq j 41 || Nat.beq j 42 || Nat.beq j 43))
theorem RM.fr {S : Nat → Nat → Bool} {σ' : fkS} (h : RM t b n e p σ) (f : Fr S σ σ') (hs : S 103 38 = false ∧ S 103 40 = false ∧ S 103 41 = false ∧ ∀ k, S 105 k = false) : RM t b n e p σ' := by
  obtain ⟨h0, h1, h2, h3, h4, h5, h6, h7⟩ := h
  exact ⟨h0, (f _ _ hs.1).1.trans h1, fun k hk => (f _ _ (hs.2.2.2 _)).1.trans (h2 k hk), h3, h4, (f _ _ hs.2.2.1).1.trans h5, (f _ _ hs.2.1).1.trans h6, h7⟩
theorem sI_m {c j a i : Nat} {v : Int32} (h : ¬ (a = c ∧ i = j)) : (sI σ c j v).1 a i = σ.1 a i := by
  by_cases h1 : a = c
  · subst h1
    exact sI_so fun z => h ⟨rfl, z⟩
  · exact congrFun (sI_o h1) i
theorem RM.sI {c j : Nat} {v : Int32} (h : RM t b n e p σ) (hc : ∀ a i, gM103 a i = true → ¬ (a = c ∧ i = j)) : RM t b n e p (sI σ c j v) := by
  obtain ⟨h0, h1, h2, h3, h4, h5, h6, h7⟩ := h
  exact ⟨h0, (sI_m (hc _ _ rfl)).trans h1, fun k hk => (sI_m (hc _ _ rfl)).trans (h2 k hk), h3, h4, (sI_m (hc _ _ rfl)).trans h5, (sI_m (hc _ _ rfl)).trans h6, h7⟩
theorem ZM.sI {w pl : Int32} {c j : Nat} {v : Int32} (h : ZM t b n e w pl σ) (hc : ∀ a i, gM103 a i = true → ¬ (a = c ∧ i = j)) : ZM t b n e w pl (sI σ c j v) := by
  obtain ⟨⟨q, a1⟩, a2, a3, a4⟩ := h
  exact ⟨⟨q, a1.sI hc⟩, a2, (sI_m (hc _ _ rfl)).trans a3, (sI_m (hc _ _ rfl)).trans a4⟩
theorem RM.sL {c j : Nat} {v : Int64} (h : RM t b n e p σ) : RM t b n e p (sL σ c j v) := h
theorem ZM.sL {w pl : Int32} {c j : Nat} {v : Int64} (h : ZM t b n e w pl σ) : ZM t b n e w pl (sL σ c j v) := h
/-- a write elsewhere -/
theorem ew {c j : Nat} (h : (Nat.beq c 105 || Nat.beq c 103) = false) : ∀ a i, gM103 a i = true → ¬ (a = c ∧ i = j) := by
  intro a i hg hz
  obtain ⟨rfl, rfl⟩ := hz
  unfold gM103 at hg
  cases h1 : Nat.beq a 105
  · cases h2 : Nat.beq a 103
    · rw [h1, h2] at hg
      cases hg
    · rw [h2, Bool.or_true] at h
      cases h
  · rw [h1] at h
    cases h
theorem g0_sI {c j : Nat} {v : Int32} (h : σ.1 103 42 = 0) (hc : (Nat.beq c 105 || Nat.beq c 103) = false) : (sI σ c j v).1 103 42 = 0 := by
  have h1 : (103 : Nat) ≠ c := fun z => by subst z; cases hc
  rw [sI_o h1]
  exact h
end RULEM
def YM (t : Nat → UInt8) (b n e : Nat) (S : Nat → Nat → Bool) {α : Type} (Rel : α → fkS → Prop) (R : Rr α) (σ σ' : fkS) : Prop := Fr S σ σ' ∧ match R with
  | .inl (a, q) => Rel a σ' ∧ RM t b n e q σ' ∧ σ'.1 103 42 = 0
  | .inr (w, pl) => ZM t b n e w pl σ'
theorem qY {t : Nat → UInt8} {b n e d k : Nat} {as : List Value} {σ : fkS} {S : Nat → Nat → Bool} {α : Type} {Rel : α → fkS → Prop} {R : Rr α} (hD : Cv d k as σ (fun σ' => YM t b n e S Rel R σ σ')) {P : fkS → Prop}
    (ok : ∀ a q σ', R = .inl (a, q) → Fr S σ σ' → Rel a σ' → RM t b n e q σ' → σ'.1 103 42 = 0 → P σ')
    (ft : ∀ w pl σ', R = .inr (w, pl) → Fr S σ σ' → ZM t b n e w pl σ' → P σ') : Cv d k as σ P := by
  refine hD.mono fun x σ1 hx => ?_
  obtain ⟨rfl, hf, hu⟩ := Qv_s hx
  show P σ1
  split at hu
  next a q => exact ok a q _ rfl hf hu.1 hu.2.1 hu.2.2
  next w pl => exact ft w pl _ rfl hf hu
def YMI (t : Nat → UInt8) (b n e : Nat) (S : Nat → Nat → Bool) {α : Type} (Rel : α → Int32 → fkS → Prop) (R : Rr α) (σ : fkS) (r : Int32) (σ' : fkS) : Prop := Fr S σ σ' ∧ match R with
  | .inl (a, q) => Rel a r σ' ∧ RM t b n e q σ' ∧ σ'.1 103 42 = 0
  | .inr (w, pl) => ZM t b n e w pl σ'
theorem qYI {t : Nat → UInt8} {b n e d k : Nat} {as : List Value} {σ : fkS} {S : Nat → Nat → Bool} {α : Type} {Rel : α → Int32 → fkS → Prop} {R : Rr α} (hD : Ci d k as σ (fun r σ' => YMI t b n e S Rel R σ r σ')) {P : Int32 → fkS → Prop}
    (ok : ∀ a q r σ', R = .inl (a, q) → Fr S σ σ' → Rel a r σ' → RM t b n e q σ' → σ'.1 103 42 = 0 → P r σ')
    (ft : ∀ w pl r σ', R = .inr (w, pl) → Fr S σ σ' → ZM t b n e w pl σ' → P r σ') : Ci d k as σ P := by
  refine hD.mono fun x σ1 hx => ?_
  obtain ⟨r, rfl, hf, hu⟩ := Qi_s hx
  show P r σ1
  split at hu
  next a q => exact ok a q r _ rfl hf hu.1 hu.2.1 hu.2.2
  next w pl => exact ft w pl r _ rfl hf hu
/-- a bank of a table -/
def bk (m b j : Nat) : Bool := Nat.ble (m * b) j && Nat.blt j (m * b + m)
theorem bk_in {m b k : Nat} (hk : k < m) : bk m b (m * b + k) = true := by
  unfold bk
  rw [Nat.ble_eq.mpr (by omega : m * b ≤ m * b + k), Bool.true_and]
  exact Nat.blt_eq.mpr (by omega)
theorem bk_out {m b j : Nat} (h : j < m * b ∨ m * b + m ≤ j) : bk m b j = false := by
  refine Bool.eq_false_iff.mpr fun z => ?_
  unfold bk at z
  rw [Bool.and_eq_true] at z
  have h1 := Nat.le_of_ble_eq_true z.1
  have h2 := Nat.blt_eq.mp z.2
  omega
