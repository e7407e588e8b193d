/-! THE JUDGE OF A FUNCTION: loads and stores; the reference -/
def memL (op : Nat) : Prop := op = 40 ∨ op = 41 ∨ (44 ≤ op ∧ op ≤ 55) ∨ (58 ≤ op ∧ op ≤ 62)
section JUDM9
variable {d : Nat} {C : List In} {J : JS} {σ : fkS}
theorem m_bytes {op : Nat} (ho : memL op) : Ci d 286 [.int (nI op)] σ (fun r σ' => r = nI (wid op) ∧ σ' = σ) := by
  have hi : (nI op).toInt = (op : Int) := nI_toInt (by unfold memL at ho; omega)
  refine S_M_bytesOf ?_
  rw [hi]
  have fin : ∀ (k v : Nat), wid k = v → ((op : Int) = (k : Int) → Qi (fun r σ' => r = nI (wid op) ∧ σ' = σ) (some (.int (nI v))) σ) := fun k v hk z => by
    have : op = k := by omega
    subst this
    exact ⟨congrArg nI hk.symm, rfl⟩
  exact ⟨fun z => absurd z (by unfold memL at ho; omega), fin 40 4 (by decide), fin 41 8 (by decide), fun z => absurd z (by unfold memL at ho; omega), fun z => absurd z (by unfold memL at ho; omega), fin 44 1 (by decide), fin 45 1 (by decide), fin 46 2 (by decide), fin 47 2 (by decide), fin 48 1 (by decide), fin 49 1 (by decide), fin 50 2 (by decide), fin 51 2 (by decide), fin 52 4 (by decide), fin 53 4 (by decide), fin 54 4 (by decide), fin 55 8 (by decide), fun z => absurd z (by unfold memL at ho; omega), fun z => absurd z (by unfold memL at ho; omega), fin 58 1 (by decide), fin 59 2 (by decide), fin 60 1 (by decide), fin 61 2 (by decide), fin 62 4 (by decide), trivial⟩
theorem m_wide {op : Nat} (ho : memL op) : Ci d 287 [.int (nI op)] σ (fun r σ' => r = b2i (decide (acc op = 126)) ∧ σ' = σ) := by
  have w : acc op = 126 → (1 : Int32) = b2i (decide (acc op = 126)) := fun z => by
    rw [decide_eq_true z]
    rfl
  have n : ¬ acc op = 126 → (0 : Int32) = b2i (decide (acc op = 126)) := fun z => by
    rw [decide_eq_false z]
    rfl
  unfold memL at ho
  refine S_M_isWide (pk_eq op 41 (fun z => ⟨w ?_, rfl⟩) fun z1 => pk_lt op 48 (fun z2 => pk_eq op 55 (fun z => absurd z (by omega)) fun z3 => pk_lt op 60 (fun z4 => ⟨n ?_, rfl⟩) fun z4 => absurd z2 (by omega)) fun z2 => pk_le op 53 (fun z3 => ⟨w ?_, rfl⟩) fun z3 => pk_eq op 55 (fun z4 => ⟨w ?_, rfl⟩) fun z4 => pk_lt op 60 (fun z5 => ⟨n ?_, rfl⟩) fun z5 => pk_lt 62 op (fun z6 => absurd z6 (by omega)) fun z6 => ⟨w ?_, rfl⟩)
  all_goals
    unfold acc
    first
    | (rw [if_neg (by omega)]; done)
    | (rw [if_pos (by omega)]; decide)
theorem w_mem106 {op : Nat} (ho : memL op) (h : mJ C J σ) (hl : (jT J).length ≤ 4000) (h0 : 0 < (jB J).length) : Wq 285 (d + 2) 106 [some (.ref 103), some (.int (nI op)), none, none, none, none] [] σ (Qv fun σ' => QJ C (if op < 54 then jPush (acc op) (jPop 127 J).2 else (jPop 127 J).2) σ σ') := by
  have ho2 := ho
  unfold memL at ho2
  refine S_M_memories_106 (kMpop (due := 127) h (by decide) (by decide) hl h0 Fr.rf fun σ1 f1 h1 l1 b1 => pk_le 54 op (fun z => ?_) fun z => ?_)
  · rw [if_neg (by omega)]
    exact ⟨f1, h1⟩
  · rw [if_pos z]
    refine (m_wide ho).mono fun x σ2 hx => ?_
    obtain ⟨r, rfl, hr, hs⟩ := Qi_s hx
    subst hr
    rw [hs]
    refine ⟨fun y => ?_, fun y => ?_⟩
    · have : acc op = 127 := by
        have := of_decide_eq_false (b2i_0.mp y)
        unfold acc at *
        split at this
        next q => rw [if_pos q]
        · exact absurd rfl this
      rw [this]
      exact kMpush (ty := 127) h1 (by decide) l1 f1 fun σ2 f2 h2 => ⟨f2, h2⟩
    · have := of_decide_eq_true (b2t y)
      rw [this]
      exact kMpush (ty := 126) h1 (by decide) l1 f1 fun σ2 f2 h2 => ⟨f2, h2⟩
end JUDM9
