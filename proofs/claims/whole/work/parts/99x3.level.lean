/-! which level a sign has -/
def lvl (c : Nat) : Int32 := if c = 37 ∨ c = 42 ∨ c = 47 then 2 else if c = 43 ∨ c = 45 then 1 else if c = 60 ∨ c = 128 then 0 else -1
theorem p_level {d c : Nat} {σ : fkS} (hc : c < 256) : Di d 202 [.int (nI c)] σ (fun x s => s = σ ∧ x = lvl c) := by
  have e : (nI c).toInt = (c : Int) := nI_toInt (by omega)
  have fin : ∀ {x : Int32}, x = lvl c → Qi (fun x s => s.2.2 = σ.2.2 ∧ s = σ ∧ x = lvl c) (some (.int x)) σ := fun h => ⟨rfl, rfl, h⟩
  refine S_Parser_levelOf ?_
  rw [e]
  refine ⟨fun z => fin ?_, fun z1 => ⟨fun z => fin ?_, fun z2 => ⟨fun z => fin ?_, fun z3 => ⟨fun z => fin ?_, fun z4 => ⟨fun z => fin ?_, fun z5 => ⟨fun z => fin ?_, fun z6 => ⟨fun z => fin ?_, fun z7 => fin ?_⟩⟩⟩⟩⟩⟩⟩
  · have : c = 37 := by omega
    subst this; rfl
  · have : c = 42 := by omega
    subst this; rfl
  · have : c = 43 := by omega
    subst this; rfl
  · have : c = 45 := by omega
    subst this; rfl
  · have : c = 47 := by omega
    subst this; rfl
  · have : c = 60 := by omega
    subst this; rfl
  · have : c = 128 := by omega
    subst this; rfl
  · unfold lvl
    rw [if_neg (by omega), if_neg (by omega), if_neg (by omega)]
