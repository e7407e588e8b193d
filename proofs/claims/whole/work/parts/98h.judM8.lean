/-! THE JUDGE OF A FUNCTION: what a variable's INSTRUCTION takes and puts; the reference -/
def rSetM (op ty : Nat) (J : JS) : JS := if op = 33 ∨ op = 36 then jPopG ty J else if op = 34 then jPush ty (jPopG ty J) else jPush ty J
section JUDM8
variable {d : Nat} {C : List In} {J : JS} {σ : fkS}
theorem w_var100 {op ty : Nat} (ho : op = 33 ∨ op = 34 ∨ op = 36) (ht : ty < 200) (h : mJ C J σ) (hl : (jT J).length ≤ 4000) (h0 : 0 < (jB J).length) : Wq 283 (d + 2) 100 [some (.ref 103), some (.int (nI op)), none, none, some (.int (nI ty))] [] σ (Qv fun σ' => QJ C (rSetM op ty J) σ σ') := by
  refine S_M_variables_100 ((m_jpopG h ht (by omega) h0).mono fun x σ1 hx => ?_)
  obtain ⟨rfl, f1, h1⟩ := Qv_s hx
  have l1 : (jT (jPopG ty J)).length ≤ 4000 := Nat.le_trans jPopG_T hl
  show _ ∧ _
  refine pk_eq op 32 (fun z => absurd z (by omega)) fun n32 => pk_eq op 34 (fun z => ?_) fun n34 => And.comm.mp (pk_eq op 35 (fun z => absurd z (by omega)) fun n35 => ?_)
  · have e : rSetM op ty J = jPush ty (jPopG ty J) := by
      unfold rSetM
      rw [if_neg (by omega), if_pos z]
    rw [e]
    exact kMpush h1 ht l1 f1 fun σ2 f2 h2 => ⟨f2, h2⟩
  · have e : rSetM op ty J = jPopG ty J := by
      unfold rSetM
      rw [if_pos (by omega)]
    rw [e]
    exact ⟨f1, h1⟩
theorem w_var80 {op ty : Nat} (ho : 32 ≤ op ∧ op ≤ 36) (ht : ty < 200) (h : mJ C J σ) (hl : (jT J).length ≤ 4000) (h0 : 0 < (jB J).length) : Wq 283 (d + 2) 80 [some (.ref 103), some (.int (nI op)), none, none, none] [.int (nI ty)] σ (Qv fun σ' => QJ C (rSetM op ty J) σ σ') := by
  have go : (op = 33 ∨ op = 34 ∨ op = 36) → Wq 283 (d + 2) 100 [some (.ref 103), some (.int (nI op)), none, none, some (.int (nI ty))] [] σ (Qv fun σ' => QJ C (rSetM op ty J) σ σ') := fun z => w_var100 z ht h hl h0
  have pu : (op = 32 ∨ op = 35) → Cv (d + 1) 277 [.ref 103, .int (nI ty)] σ (fun σ1 => Qv (fun σ' => QJ C (rSetM op ty J) σ σ') none σ1) := fun z => by
    have e : rSetM op ty J = jPush ty J := by
      unfold rSetM
      rw [if_neg (by omega), if_neg (by omega)]
    rw [e]
    exact kMpush h ht hl Fr.rf fun σ2 f2 h2 => ⟨f2, h2⟩
  refine S_M_variables_80 (pk_eq op 33 (fun z => go (by omega)) fun n33 => pk_eq op 34 (fun z => go (by omega)) fun n34 => And.comm.mp (pk_eq op 36 (fun z => go (by omega)) fun n36 => pk_eq op 32 (fun z => pu (by omega)) fun n32 => pk_eq op 34 (fun z => absurd z n34) fun _ => And.comm.mp (pk_eq op 35 (fun z => pu (by omega)) fun n35 => absurd ho (by omega))))
end JUDM8
