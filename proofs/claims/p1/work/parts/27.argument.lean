/-! ARGUMENT, and isIn of the reference -/
theorem c_isIn {d : Nat} {a n : Int32} {σ : fkS} : Ci d 293 [.int a, .int n] σ (fun r σ1 => σ1 = σ ∧ ((¬ a < 0 ∧ a < n ∧ r = 1) ∨ (¬ (¬ a < 0 ∧ a < n) ∧ r = 0))) := by
  refine S_M_isIn ⟨fun z => ⟨rfl, Or.inr ⟨fun y => y.1 z, rfl⟩⟩, fun z => ⟨fun y => ⟨rfl, Or.inr ⟨fun w => ?_, rfl⟩⟩, fun y => ⟨rfl, Or.inl ⟨z, ?_, rfl⟩⟩⟩⟩
  · exact Int32.not_lt.mpr y w.2
  · exact Int32.not_le.mp y
/-- the arguments that are put down for a run -/
def rA (σ : fkS) : Prop := ∀ k, k < 8 → σ.2.1 2 k = σ.2.1 149 k
def fkA (c _j : Nat) : Bool := Nat.beq c 2 || Nat.beq c 149
theorem op_argument {d : Nat} {σ : fkS} (h : rA σ) {J : fkS → Prop} (hJ : ∀ σ2, rA σ2 → Fr fkA σ σ2 → J σ2) (a0 : Int32) (a1 : Int64) : Ci (d + 1) 103 [.ref 0, .int a0, .long a1] σ (fun r σ1 => Ci (d + 1) 295 [.ref 103, .int a0, .long a1] σ1 (fun r2 σ2 => r = r2 ∧ J σ2)) := by
  have no : ¬ (¬ a0 < 0 ∧ a0 < 8) → ∀ σ0, Ci (d + 1) 295 [.ref 103, .int a0, .long a1] σ0 (fun r2 σ2 => 0 = r2 ∧ σ2 = σ0) := by
    intro hn σ0
    refine S_M_argument ((c_isIn (d := d) (a := a0) (n := 8)).mono fun x σ1 hx => ?_)
    obtain ⟨r, rfl, rfl, hr⟩ := Qi_s hx
    rcases hr with ⟨y1, y2, -⟩ | ⟨-, rfl⟩
    · exact absurd ⟨y1, y2⟩ hn
    · exact ⟨fun z => absurd rfl z, fun _ => ⟨rfl, rfl⟩⟩
  have yes : ¬ a0 < 0 → a0 < 8 → ∀ σ0, Ci (d + 1) 295 [.ref 103, .int a0, .long a1] σ0 (fun r2 σ2 => 1 = r2 ∧ σ2 = sL σ0 149 a0.toNatClampNeg a1) := by
    intro h1 h2 σ0
    refine S_M_argument ((c_isIn (d := d) (a := a0) (n := 8)).mono fun x σ1 hx => ?_)
    obtain ⟨r, rfl, rfl, hr⟩ := Qi_s hx
    rcases hr with ⟨-, -, rfl⟩ | ⟨y, -⟩
    · refine ⟨fun _ => ⟨?_, rfl, rfl⟩, fun z => absurd z (by decide)⟩
      obtain ⟨j, hj, rfl⟩ := nI_of h1
      have h3 : j < 8 := (nI_ltI (b := 8) hj (by decide)).mp h2
      exact vp_in_nI h3 (by decide)
    · exact absurd ⟨h1, h2⟩ y
  refine S_X_argument ⟨fun z => ?_, fun z => ⟨fun y => ⟨?_, ?_⟩, fun y => ?_⟩⟩
  · refine (no (fun w => w.1 z) σ).mono fun x σ2 hx => ?_
    obtain ⟨r, rfl, rfl, rfl⟩ := Qi_s hx
    exact ⟨rfl, hJ _ h Fr.rf⟩
  · obtain ⟨j, hj, rfl⟩ := nI_of z
    exact vp_in_nI ((nI_ltI (b := 8) hj (by decide)).mp y) (by decide)
  · refine (yes z y _).mono fun x σ2 hx => ?_
    obtain ⟨r, rfl, rfl, rfl⟩ := Qi_s hx
    refine ⟨rfl, hJ _ (fun k hk => ?_) ((Fr.rf.sL rfl).sL rfl)⟩
    rw [sL_o (by decide : (2 : Nat) ≠ 149)]
    by_cases e : k = a0.toNatClampNeg
    · rw [e, sL_ss, sL_ss]
    · rw [sL_so e, sL_so e, sL_o (by decide : (149 : Nat) ≠ 2)]
      exact h k hk
  · refine (no (fun w => y w.2) σ).mono fun x σ2 hx => ?_
    obtain ⟨r, rfl, rfl, rfl⟩ := Qi_s hx
    exact ⟨rfl, hJ _ h Fr.rf⟩
