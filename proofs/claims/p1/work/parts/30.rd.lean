/-! WHAT COMES OF READING: a value and the next place, or a fault and its place -/
abbrev Rr (α : Type) : Type := Sum (α × Nat) (Int32 × Int32)
theorem u32_le {t : Nat → UInt8} {e : Nat} : ∀ (f p : Nat) (acc v : Int64) (q : Nat), u32 t e f p acc = some (v, q) → p < q ∧ q ≤ e
  | 0, p, acc, v, q, h => by cases h
  | f + 1, p, acc, v, q, h => by
    rw [u32] at h
    split at h
    next hz =>
      split at h
      · cases h
      · split at h
        · have := u32_le f (p + 1) _ v q h
          omega
        · have h2 := Option.some.inj h
          have h3 : p + 1 = q := congrArg Prod.snd h2
          omega
    · cases h
def okX (σ : fkS) (q : Nat) : fkS := sI σ 46 1 (nI q)
def ftX (σ : fkS) (q : Nat) (w pl : Int32) : fkS := sI (sI (sI σ 46 1 (nI q)) 46 3 w) 46 4 pl
def okM (σ : fkS) (q : Nat) : fkS := sI σ 103 40 (nI q)
def ftM (σ : fkS) (q : Nat) (w pl : Int32) : fkS := sI (sI (sI σ 103 40 (nI q)) 103 42 w) 103 43 pl
/-- the class, from a state without fault -/
def XR {α ρ : Type} (R : Rr α) (val : α → ρ → Prop) (z : ρ → Prop) (σ : fkS) (r : ρ) (σ' : fkS) : Prop := match R with
  | .inl (a, q) => val a r ∧ q ≤ 4000 ∧ σ' = okX σ q
  | .inr (w, pl) => w ≠ 0 ∧ z r ∧ ∃ q, q ≤ 4000 ∧ σ' = ftX σ q w pl
/-- the reference, from a state without fault -/
def MR {α ρ : Type} (R : Rr α) (val : α → ρ → Prop) (z : ρ → Prop) (σ : fkS) (r : ρ) (σ' : fkS) : Prop := match R with
  | .inl (a, q) => val a r ∧ q ≤ 4000 ∧ σ' = okM σ q
  | .inr (w, pl) => w ≠ 0 ∧ z r ∧ ∃ q, q ≤ 4000 ∧ σ' = ftM σ q w pl
theorem flX_0 {σ : fkS} {q : Nat} {w pl : Int32} (hf : σ.1 46 3 = 0) : flX (sI σ 46 1 (nI q)) w pl = ftX σ q w pl := by
  unfold flX ftX
  rw [sI_so (by decide : (3 : Nat) ≠ 1), if_pos hf]
theorem flX_z {σ : fkS} {w pl : Int32} (hf : ¬ σ.1 46 3 = 0) : flX σ w pl = σ := by
  unfold flX
  rw [if_neg hf]
theorem flX_zq {σ : fkS} {q : Nat} {w pl : Int32} (hf : ¬ σ.1 46 3 = 0) : flX (sI σ 46 1 (nI q)) w pl = okX σ q := by
  unfold flX okX
  rw [sI_so (by decide : (3 : Nat) ≠ 1), if_neg hf]
theorem flM_0 {σ : fkS} {q : Nat} {w pl : Int32} (hf : σ.1 103 42 = 0) : flM (sI σ 103 40 (nI q)) w pl = ftM σ q w pl := by
  unfold flM ftM
  rw [sI_so (by decide : (42 : Nat) ≠ 40), if_pos hf]
theorem okX_f (σ : fkS) (q : Nat) : (okX σ q).1 46 3 = σ.1 46 3 := sI_so (by decide)
theorem okM_f (σ : fkS) (q : Nat) : (okM σ q).1 103 42 = σ.1 103 42 := sI_so (by decide)
theorem ftX_f (σ : fkS) (q : Nat) (w pl : Int32) : (ftX σ q w pl).1 46 3 = w := (sI_so (by decide)).trans sI_ss
theorem ftM_f (σ : fkS) (q : Nat) (w pl : Int32) : (ftM σ q w pl).1 103 42 = w := (sI_so (by decide)).trans sI_ss
theorem okX_ok (σ : fkS) (p q : Nat) : okX (okX σ p) q = okX σ q := sI_sI
theorem okM_ok (σ : fkS) (p q : Nat) : okM (okM σ p) q = okM σ q := sI_sI
theorem sI_cm {σ : fkS} {c i j : Nat} {v w : Int32} (h : i ≠ j) : sI (sI σ c i v) c j w = sI (sI σ c j w) c i v := by
  unfold sI
  refine Prod.ext ?_ rfl
  funext a b
  by_cases e : a = c
  · subst e
    by_cases e1 : b = i
    · simp [e1, h]
    · by_cases e2 : b = j
      · have h2 : ¬ j = i := fun z => h z.symm
        simp [e2, h2]
      · simp [e1, e2]
  · simp [e]
theorem okX_ft (σ : fkS) (p q : Nat) (w pl : Int32) : okX (ftX σ p w pl) q = ftX σ q w pl := by
  unfold okX ftX
  rw [sI_cm (i := 4) (j := 1) (by decide), sI_cm (i := 3) (j := 1) (by decide), sI_sI]
theorem ftX_ok (σ : fkS) (p q : Nat) (w pl : Int32) : ftX (okX σ p) q w pl = ftX σ q w pl := by
  unfold okX ftX
  rw [sI_sI]
theorem ftM_ok (σ : fkS) (p q : Nat) (w pl : Int32) : ftM (okM σ p) q w pl = ftM σ q w pl := by
  unfold okM ftM
  rw [sI_sI]
/-- an unsigned number -/
def rU (t : Nat → UInt8) (e p : Nat) : Rr Int64 := match u32 t e 5 p 0 with
  | some x => .inl x
  | none => .inr (-1, nI p)
theorem c_uX {d n e p : Nat} {t : Nat → UInt8} {σ : fkS} (h : RX t n e p σ) (hf : σ.1 46 3 = 0) : Dj (d + 1) 26 [.ref 46] σ (fun r σ' => XR (rU t e p) (fun a b => b = a) (fun r => r = 0) σ r σ') := by
  refine (c_unsigned (d := d) h).mono fun x σ' hx => ?_
  obtain ⟨r, rfl, hr, hu⟩ := Qj_s hx
  refine ⟨hr, ?_⟩
  have h1 := h.2.2.2.2.2.2
  have h2 := h.2.2.1
  have h3 := h.2.2.2.1
  unfold uX at hu
  unfold XR rU
  split at hu
  next v q hq =>
    have hb := u32_le _ _ _ _ _ hq
    rw [hq]
    exact ⟨hu.1, by omega, hu.2⟩
  next hq =>
    obtain ⟨hr0, q, q1, q2, rfl⟩ := hu
    rw [hq]
    exact ⟨by decide, hr0, q, by omega, flX_0 hf⟩
/-- behind a fault the class reads on, and nothing else comes of it -/
theorem c_uXz {d n e p : Nat} {t : Nat → UInt8} {σ : fkS} (h : RX t n e p σ) (hf : ¬ σ.1 46 3 = 0) : Dj (d + 1) 26 [.ref 46] σ (fun _ σ' => ∃ q, q ≤ 4000 ∧ σ' = okX σ q) := by
  refine (c_unsigned (d := d) h).mono fun x σ' hx => ?_
  obtain ⟨r, rfl, hr, hu⟩ := Qj_s hx
  refine ⟨hr, ?_⟩
  have h1 := h.2.2.2.2.2.2
  have h2 := h.2.2.1
  have h3 := h.2.2.2.1
  unfold uX at hu
  split at hu
  next v q hq =>
    have hb := u32_le _ _ _ _ _ hq
    exact ⟨q, by omega, hu.2⟩
  next hq =>
    obtain ⟨-, q, q1, q2, rfl⟩ := hu
    exact ⟨q, by omega, flX_zq hf⟩
theorem c_uM {d b n e p : Nat} {t : Nat → UInt8} {σ : fkS} (h : RM t b n e p σ) (hf : σ.1 103 42 = 0) : Cj (d + 1) 246 [.ref 103] σ (fun r σ' => MR (rU t e p) (fun a b => b = a) (fun r => r = 0) σ r σ') := by
  refine (c_u32 (d := d) h hf).mono fun x σ' hx => ?_
  obtain ⟨r, rfl, hu⟩ := Qj_s hx
  have h1 := h.2.2.2.2.2.2.2
  have h2 := h.2.2.2.1
  have h3 := h.2.2.2.2.1
  show MR (rU t e p) (fun a b => b = a) (fun r => r = 0) σ r σ'
  unfold uM at hu
  unfold MR rU
  split at hu
  next v q hq =>
    have hb := u32_le _ _ _ _ _ hq
    rw [hq]
    exact ⟨hu.1, by omega, hu.2⟩
  next hq =>
    obtain ⟨hr0, q, q1, q2, rfl⟩ := hu
    rw [hq]
    exact ⟨by decide, hr0, q, by omega, flM_0 hf⟩
/-- how many there are -/
def rV (t : Nat → UInt8) (e p : Nat) : Rr Int32 := match rU t e p with
  | .inl (v, q) => if lg_cmp v 60 ≤ 0 then .inl (v.toInt32, q) else .inr (-2, nI p)
  | .inr x => .inr x
theorem rV_l {t : Nat → UInt8} {e p q : Nat} {v : Int64} (hR : rU t e p = .inl (v, q)) : rV t e p = if lg_cmp v 60 ≤ 0 then .inl (v.toInt32, q) else .inr (-2, nI p) := by
  unfold rV
  rw [hR]
theorem rV_r {t : Nat → UInt8} {e p : Nat} {x : Int32 × Int32} (hR : rU t e p = .inr x) : rV t e p = .inr x := by
  unfold rV
  rw [hR]
theorem c_vec {d n e p : Nat} {t : Nat → UInt8} {σ : fkS} (h : RX t n e p σ) (hf : σ.1 46 3 = 0) : Di (d + 2) 28 [.ref 46] σ (fun r σ' => XR (rV t e p) (fun a b => b = a) (fun r => r = 0) σ r σ') := by
  refine S_Scan_vec ((c_uX (d := d) h hf).mono fun x σ1 hx => ?_)
  obtain ⟨v, rfl, hr, hu⟩ := Qj_s hx
  refine ⟨hr, ?_⟩
  simp only [sW_eq hr]
  have hp := h.2.2.2.2.2.1
  unfold XR at hu
  cases hR : rU t e p with
  | inl a =>
    obtain ⟨a, q⟩ := a
    rw [rV_l hR]
    rw [hR] at hu
    obtain ⟨rfl, q4, rfl⟩ := hu
    refine ⟨fun y => ⟨fun z => absurd ((okX_f σ q).trans hf) z, fun _ => ⟨hr, ?_⟩⟩, fun y => ?_⟩
    · rw [if_pos y]
      exact ⟨rfl, q4, rfl⟩
    · refine c_fail.mono fun x σ3 hx => ?_
      obtain ⟨rfl, h3, rfl⟩ := Qv_s hx
      refine ⟨h3, ?_⟩
      have e1 : flX (okX σ q) (-2) (σ.1 46 1) = ftX σ q (-2) (nI p) := by rw [hp]; exact flX_0 hf
      have h4 : (flX (okX σ q) (-2) (σ.1 46 1)).2.2 = σ.2.2 := h3.trans hr
      simp only [sW_eq h4]
      rw [e1]
      refine ⟨fun z => ⟨rfl, ?_⟩, fun z => absurd ((ftX_f σ q (-2) (nI p)).symm.trans z) (by decide)⟩
      rw [if_neg y]
      exact ⟨by decide, rfl, q, q4, rfl⟩
  | inr a =>
    obtain ⟨w, pl⟩ := a
    rw [rV_r hR]
    rw [hR] at hu
    obtain ⟨hw, rfl, q, q4, rfl⟩ := hu
    have hz : ¬ (ftX σ q w pl).1 46 3 = 0 := by rw [ftX_f]; exact hw
    refine ⟨fun y => ⟨fun z => ⟨hr, hw, rfl, q, q4, rfl⟩, fun z => absurd z hz⟩, fun y => ?_⟩
    exact absurd (by decide) y
theorem c_many {d b n e p : Nat} {t : Nat → UInt8} {σ : fkS} (h : RM t b n e p σ) (hf : σ.1 103 42 = 0) : Ci (d + 2) 250 [.ref 103] σ (fun r σ' => MR (rV t e p) (fun a b => b = a) (fun r => r = 0) σ r σ') := by
  refine S_M_many ((c_uM (d := d) h hf).mono fun x σ1 hx => ?_)
  obtain ⟨v, rfl, hu⟩ := Qj_s hx
  have hp := h.2.2.2.2.2.2.1
  unfold MR at hu
  unfold Qj
  cases hR : rU t e p with
  | inl a =>
    obtain ⟨a, q⟩ := a
    rw [rV_l hR]
    rw [hR] at hu
    obtain ⟨rfl, q4, rfl⟩ := hu
    refine ⟨fun y => ⟨fun _ => ?_, fun z => absurd ((okM_f σ q).trans hf) z⟩, fun y => ?_⟩
    · rw [if_pos y]
      exact ⟨rfl, q4, rfl⟩
    · refine c_fails.mono fun x σ3 hx => ?_
      obtain ⟨rfl, rfl⟩ := Qv_s hx
      have e1 : flM (okM σ q) (-2) (σ.1 103 40) = ftM σ q (-2) (nI p) := by rw [hp]; exact flM_0 hf
      show (_ → _) ∧ (_ → _)
      rw [e1]
      refine ⟨fun z => absurd ((ftM_f σ q (-2) (nI p)).symm.trans z) (by decide), fun z => ?_⟩
      rw [if_neg y]
      exact ⟨by decide, rfl, q, q4, rfl⟩
  | inr a =>
    obtain ⟨w, pl⟩ := a
    rw [rV_r hR]
    rw [hR] at hu
    obtain ⟨hw, rfl, q, q4, rfl⟩ := hu
    have hz : ¬ (ftM σ q w pl).1 103 42 = 0 := by rw [ftM_f]; exact hw
    refine ⟨fun y => ⟨fun z => absurd z hz, fun z => ⟨hw, rfl, q, q4, rfl⟩⟩, fun y => ?_⟩
    exact absurd (by decide) y
