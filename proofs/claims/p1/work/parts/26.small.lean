/-! THE CALLS THAT ONLY LOOK: place, outcome, spent; and argument -/
/-- a call that answers with the value that its walk gives, and changes nothing -/
theorem op_place {d : Nat} {σ : fkS} (h : σ.1 0 6 = σ.1 103 2) {J : fkS → Prop} (hJ : J σ) : Ci d 99 [.ref 0] σ (fun r σ1 => Ci d 290 [.ref 103] σ1 (fun r2 σ2 => r = r2 ∧ J σ2)) :=
  S_X_place (S_M_place (Q := Qi fun r2 σ2 => σ.1 0 6 = r2 ∧ J σ2) ⟨h, hJ⟩)
theorem i32_toInt {a : Int32} {n : Int32} {k : Int} (hn : n.toInt = k) : a.toInt = k ↔ a = n := by
  rw [← hn]
  exact Int32.toInt_inj
/-- what came of the last run -/
def rO (σ : fkS) : Prop := σ.2.1 0 15 = σ.2.1 103 75 ∧ σ.1 0 16 = σ.1 103 77 ∧ σ.1 0 17 = σ.1 103 76
theorem op_outcome {d : Nat} {σ : fkS} (h : rO σ) {J : fkS → Prop} (hJ : J σ) (a0 : Int32) : Cj d 138 [.ref 0, .int a0] σ (fun r σ1 => Cj d 320 [.ref 103, .int a0] σ1 (fun r2 σ2 => r = r2 ∧ J σ2)) := by
  obtain ⟨h1, h2, h3⟩ := h
  have k0 : a0.toInt = 0 ↔ a0 = 0 := i32_toInt rfl
  have k1 : a0.toInt = 1 ↔ a0 = 1 := i32_toInt rfl
  have k2 : a0.toInt = 2 ↔ a0 = 2 := i32_toInt rfl
  refine S_X_outcome ⟨fun z => ?_, fun z => ?_, fun z => ?_, fun z => ?_, trivial⟩
  · refine S_M_outcome ⟨fun z0 => ⟨fun z1 => ⟨fun z2 => ⟨rfl, hJ⟩, fun z2 => ?_⟩, fun z1 => ?_⟩, fun z0 => ?_⟩
    · exact absurd (k2.mpr z2) (by omega)
    · exact absurd (k1.mpr z1) (by omega)
    · exact absurd (k0.mpr z0) (by omega)
  · refine S_M_outcome ⟨fun z0 => absurd (k0.mp z) z0, fun _ => ⟨h1, hJ⟩⟩
  · refine S_M_outcome ⟨fun z0 => ⟨fun z1 => absurd (k1.mp z) z1, fun _ => ⟨by rw [h2], hJ⟩⟩, fun z0 => absurd (k0.mpr z0) (by omega)⟩
  · refine S_M_outcome ⟨fun z0 => ⟨fun z1 => ⟨fun z2 => absurd (k2.mp z) z2, fun _ => ⟨by rw [h3], hJ⟩⟩, fun z1 => absurd (k1.mpr z1) (by omega)⟩, fun z0 => absurd (k0.mpr z0) (by omega)⟩
/-- what the last call of a program spent -/
def rS (σ : fkS) : Prop := σ.1 98 9 = σ.1 103 139 ∧ σ.1 98 10 = σ.1 103 140 ∧ σ.1 98 11 = σ.1 103 141
theorem op_spent {d : Nat} {σ : fkS} (h : rS σ) {J : fkS → Prop} (hJ : J σ) (a0 : Int32) : Ci d 235 [.ref 0, .int a0] σ (fun r σ1 => Ci d 367 [.ref 103, .int a0] σ1 (fun r2 σ2 => r = r2 ∧ J σ2)) := by
  obtain ⟨h1, h2, h3⟩ := h
  have k0 : a0.toInt = 0 ↔ a0 = 0 := i32_toInt rfl
  have k1 : a0.toInt = 1 ↔ a0 = 1 := i32_toInt rfl
  have k2 : a0.toInt = 2 ↔ a0 = 2 := i32_toInt rfl
  refine S_X_spent ⟨fun z => ?_, fun z => ?_, fun z => ?_, fun z => ?_, trivial⟩
  · refine S_M_spent ⟨fun z0 => ⟨fun z1 => ⟨fun z2 => ⟨rfl, hJ⟩, fun z2 => ?_⟩, fun z1 => ?_⟩, fun z0 => ?_⟩
    · exact absurd (k2.mpr z2) (by omega)
    · exact absurd (k1.mpr z1) (by omega)
    · exact absurd (k0.mpr z0) (by omega)
  · refine S_M_spent ⟨fun z0 => absurd (k0.mp z) z0, fun _ => ⟨h1, hJ⟩⟩
  · refine S_M_spent ⟨fun z0 => ⟨fun z1 => absurd (k1.mp z) z1, fun _ => ⟨h2, hJ⟩⟩, fun z0 => absurd (k0.mpr z0) (by omega)⟩
  · refine S_M_spent ⟨fun z0 => ⟨fun z1 => ⟨fun z2 => absurd (k2.mp z) z2, fun _ => ⟨h3, hJ⟩⟩, fun z1 => absurd (k1.mpr z1) (by omega)⟩, fun z0 => absurd (k0.mpr z0) (by omega)⟩
