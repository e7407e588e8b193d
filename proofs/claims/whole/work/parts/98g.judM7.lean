/-! THE JUDGE OF A FUNCTION: numbers; the reference -/
section JUDM7
variable {d : Nat} {C : List In} {J : JS} {σ : fkS}
theorem kMpop {due : Nat} {σ0 : fkS} {Q : fkS → Prop} (h : mJ C J σ) (hd : due < 200) (hd0 : ¬ due = 0) (hl : (jT J).length ≤ 4000) (h0 : 0 < (jB J).length) (f0 : Fr sMg σ0 σ) (k : ∀ σ1, Fr sMg σ0 σ1 → mJ C (jPop due J).2 σ1 → (jT (jPop due J).2).length ≤ 4000 → 0 < (jB (jPop due J).2).length → Q σ1) : Cv (d + 1) 273 [.ref 103, .int (nI due)] σ Q := by
  refine (m_jpopG h hd (by omega) h0).mono fun x σ1 hx => ?_
  obtain ⟨rfl, f1, h1⟩ := Qv_s hx
  have e : jPopG due J = (jPop due J).2 := if_neg hd0
  rw [e] at h1
  exact k σ1 (f0.tr f1) h1 (Nat.le_trans jPop_T hl) (by rw [jPop_B]; exact h0)
theorem kMpush {ty : Nat} {σ0 : fkS} {Q : fkS → Prop} (h : mJ C J σ) (ht : ty < 200) (hl : (jT J).length ≤ 4000) (f0 : Fr sMg σ0 σ) (k : ∀ σ1, Fr sMg σ0 σ1 → mJ C (jPush ty J) σ1 → Q σ1) : Cv d 277 [.ref 103, .int (nI ty)] σ Q := by
  refine (m_jpush h ht (by omega)).mono fun x σ1 hx => ?_
  obtain ⟨rfl, f1, h1⟩ := Qv_s hx
  exact k σ1 (f0.tr f1) h1
theorem w_num190 {op a : Nat} {one : Bool} (ho : op < 256) (ha : a = 127 ∨ a = 126) (h : mJ C J σ) (hl : (jT J).length ≤ 4000) (h0 : 0 < (jB J).length) : Wq 288 (d + 2) 190 [some (.ref 103), some (.int (nI op)), none, some (.int (nI a)), none] [.int (b2i one)] σ (Qv fun σ' => QJ C (jTurn a (if one = true then 1 else 2) (if 90 < op then a else 127) J) σ σ') := by
  have ha2 : a < 200 := by omega
  refine S_M_numbers_190 (kMpop h ha2 (by omega) hl h0 Fr.rf fun σ1 f1 h1 l1 b1 => ?_)
  cases one with
  | true =>
    have e : jTurn a (if true = true then 1 else 2) (if 90 < op then a else 127) J = jPush (if 90 < op then a else 127) (jPop a J).2 := rfl
    rw [e]
    refine ⟨fun _ => pk_lt 90 op (fun z => ?_) fun z => ?_, fun z => absurd z (by decide)⟩
    · rw [if_pos z]
      exact kMpush h1 ha2 l1 f1 fun σ2 f2 h2 => ⟨f2, h2⟩
    · rw [if_neg (by omega)]
      exact kMpush (ty := 127) h1 (by decide) l1 f1 fun σ2 f2 h2 => ⟨f2, h2⟩
  | false =>
    have e : jTurn a (if false = true then 1 else 2) (if 90 < op then a else 127) J = jPush (if 90 < op then a else 127) (jPop a (jPop a J).2).2 := rfl
    rw [e]
    refine ⟨fun z => absurd rfl z, fun _ => kMpop h1 ha2 (by omega) l1 b1 f1 fun σ3 f3 h3 l3 b3 => pk_lt 90 op (fun z => ?_) fun z => ?_⟩
    · rw [if_pos z]
      exact kMpush h3 ha2 l3 f3 fun σ2 f2 h2 => ⟨f2, h2⟩
    · rw [if_neg (by omega)]
      exact kMpush (ty := 127) h3 (by decide) l3 f3 fun σ2 f2 h2 => ⟨f2, h2⟩
theorem w_num112 {op : Nat} (ho : op = 167 ∨ op = 172 ∨ op = 173) (h : mJ C J σ) (hl : (jT J).length ≤ 4000) (h0 : 0 < (jB J).length) : Wq 288 (d + 2) 112 [some (.ref 103), some (.int (nI op)), none, none, none] [] σ (Qv fun σ' => QJ C (jNum op J) σ σ') := by
  refine S_M_numbers_112 (And.comm.mp (pk_eq op 167 (fun z => ?_) fun z => ?_))
  · have e : jNum op J = jPush 127 (jPop 126 J).2 := by
      unfold jNum
      rw [if_pos z]
      rfl
    rw [e]
    exact kMpop (due := 126) h (by decide) (by decide) hl h0 Fr.rf fun σ1 f1 h1 l1 b1 => ⟨fun y => absurd (by rw [z]; rfl) y, fun _ => kMpush (ty := 127) h1 (by decide) l1 f1 fun σ2 f2 h2 => ⟨f2, h2⟩⟩
  · have e : jNum op J = jPush 126 (jPop 127 J).2 := by
      unfold jNum
      rw [if_neg z, if_pos (by omega)]
      rfl
    rw [e]
    exact kMpop (due := 127) h (by decide) (by decide) hl h0 Fr.rf fun σ1 f1 h1 l1 b1 => And.comm.mp (pk_eq op 167 (fun y => absurd y z) fun _ => kMpush (ty := 126) h1 (by decide) l1 f1 fun σ2 f2 h2 => ⟨f2, h2⟩)
theorem w_num90 {op a : Nat} (ho : (69 ≤ op ∧ op ≤ 90) ∨ (103 ≤ op ∧ op ≤ 138) ∨ op = 167 ∨ op = 172 ∨ op = 173) (ha : op ≠ 167 → op ≠ 172 → op ≠ 173 → a = if (80 ≤ op ∧ op ≤ 90) ∨ (121 ≤ op ∧ op ≤ 138) then 126 else 127) (h : mJ C J σ) (hl : (jT J).length ≤ 4000) (h0 : 0 < (jB J).length) : Wq 288 (d + 2) 90 [some (.ref 103), some (.int (nI op)), none, none, none] [.int (nI a)] σ (Qv fun σ' => QJ C (jNum op J) σ σ') := by
  have go : ∀ one : Bool, op ≠ 167 → op ≠ 172 → op ≠ 173 → (one = true ↔ op = 69 ∨ op = 80 ∨ (103 ≤ op ∧ op ≤ 105) ∨ (121 ≤ op ∧ op ≤ 123)) → Wq 288 (d + 2) 190 [some (.ref 103), some (.int (nI op)), none, some (.int (nI a)), none] [.int (b2i one)] σ (Qv fun σ' => QJ C (jNum op J) σ σ') := fun one n1 n2 n3 h1 => by
    have haa := ha n1 n2 n3
    have e : jNum op J = jTurn a (if one = true then 1 else 2) (if 90 < op then a else 127) J := by
      unfold jNum
      rw [if_neg n1, if_neg (by omega)]
      by_cases c1 : op ≤ 79
      · rw [if_pos c1]
        have ha' : a = 127 := by rw [haa, if_neg (by omega)]
        have hb : (if 90 < op then a else 127) = 127 := by
          split
          · omega
          · omega
        have ht : (if op = 69 then 1 else 2) = (if one = true then 1 else 2) := by
          by_cases q : op = 69
          · rw [if_pos q, if_pos (h1.mpr (by omega))]
          · rw [if_neg q, if_neg (fun y => by have := h1.mp y; omega)]
        rw [hb, ha', ht]
      rw [if_neg c1]
      by_cases c2 : op ≤ 90
      · rw [if_pos c2]
        have ha' : a = 126 := by rw [haa, if_pos (by omega)]
        have hb : (if 90 < op then a else 127) = 127 := by
          split
          · omega
          · omega
        have ht : (if op = 80 then 1 else 2) = (if one = true then 1 else 2) := by
          by_cases q : op = 80
          · rw [if_pos q, if_pos (h1.mpr (by omega))]
          · rw [if_neg q, if_neg (fun y => by have := h1.mp y; omega)]
        rw [hb, ha', ht]
      rw [if_neg c2]
      by_cases c3 : op ≤ 120
      · rw [if_pos c3]
        have ha' : a = 127 := by rw [haa, if_neg (by omega)]
        have hb : (if 90 < op then a else 127) = 127 := by
          split
          · omega
          · omega
        have ht : (if op ≤ 105 then 1 else 2) = (if one = true then 1 else 2) := by
          by_cases q : op ≤ 105
          · rw [if_pos q, if_pos (h1.mpr (by omega))]
          · rw [if_neg q, if_neg (fun y => by have := h1.mp y; omega)]
        rw [hb, ha', ht]
      · rw [if_neg c3]
        have ha' : a = 126 := by rw [haa, if_pos (by omega)]
        have hb : (if 90 < op then a else 127) = 126 := by
          split
          · omega
          · omega
        have ht : (if op ≤ 123 then 1 else 2) = (if one = true then 1 else 2) := by
          by_cases q : op ≤ 123
          · rw [if_pos q, if_pos (h1.mpr (by omega))]
          · rw [if_neg q, if_neg (fun y => by have := h1.mp y; omega)]
        rw [hb, ha', ht]
    rw [e]
    exact w_num190 (by omega) (by rw [haa]; split <;> simp) h hl h0
  have w112 : (op = 167 ∨ op = 172 ∨ op = 173) → Wq 288 (d + 2) 112 [some (.ref 103), some (.int (nI op)), none, none, none] [] σ (Qv fun σ' => QJ C (jNum op J) σ σ') := fun z => w_num112 z h hl h0
  refine S_M_numbers_90 (pk_eq op 167 (fun z => w112 (by omega)) fun n1 => pk_eq op 172 (fun z => w112 (by omega)) fun n2 => And.comm.mp (pk_eq op 173 (fun z => w112 (by omega)) fun n3 => pk_eq op 69 (fun z => go true n1 n2 n3 (by simp; omega)) fun z1 => pk_eq op 80 (fun z => go true n1 n2 n3 (by simp; omega)) fun z2 => pk_lt op 103 (fun z3 => pk_lt op 121 (fun z4 => go false n1 n2 n3 (by simp; omega)) fun z4 => absurd z3 (by omega)) fun z3 => pk_le op 105 (fun z4 => go true n1 n2 n3 (by simp; omega)) fun z4 => pk_lt op 121 (fun z5 => go false n1 n2 n3 (by simp; omega)) fun z5 => pk_lt 123 op (fun z6 => go false n1 n2 n3 (by simp; omega)) fun z6 => go true n1 n2 n3 (by simp; omega)))
theorem m_num {op : Nat} (ho : (69 ≤ op ∧ op ≤ 90) ∨ (103 ≤ op ∧ op ≤ 138) ∨ op = 167 ∨ op = 172 ∨ op = 173) (h : mJ C J σ) (hl : (jT J).length ≤ 4000) (h0 : 0 < (jB J).length) : Cv (d + 2) 288 [.ref 103, .int (nI op)] σ (fun σ' => QJ C (jNum op J) σ σ') := by
  have g : ∀ a, (op ≠ 167 → op ≠ 172 → op ≠ 173 → a = if (80 ≤ op ∧ op ≤ 90) ∨ (121 ≤ op ∧ op ≤ 138) then 126 else 127) → Wq 288 (d + 2) 90 [some (.ref 103), some (.int (nI op)), none, none, none] [.int (nI a)] σ (Qv fun σ' => QJ C (jNum op J) σ σ') := fun a ha => w_num90 ho ha h hl h0
  have w60 : ¬ (80 ≤ op ∧ op ≤ 90) → Wq 288 (d + 2) 60 [some (.ref 103), some (.int (nI op)), none, none, none] [] σ (Qv fun σ' => QJ C (jNum op J) σ σ') := fun z => by
    refine S_M_numbers_60 (pk_lt op 121 (fun y => ⟨fun _ => g 127 fun _ _ _ => (if_neg (by omega)).symm, fun q => absurd rfl q⟩) fun y => pk_lt 138 op (fun w => ⟨fun _ => g 127 fun _ _ _ => (if_neg (by omega)).symm, fun q => absurd rfl q⟩) fun w => ⟨fun q => absurd q (by decide), fun _ => g 126 fun _ _ _ => (if_pos (by omega)).symm⟩)
  refine S_M_numbers (pk_eq op 65 (fun z => absurd z (by omega)) fun z => And.comm.mp (pk_eq op 66 (fun z => absurd z (by omega)) fun z2 => pk_lt op 80 (fun y => w60 (by omega)) fun y => pk_le op 90 (fun w => ⟨fun q => absurd q (by decide), fun _ => g 126 fun _ _ _ => (if_pos (by omega)).symm⟩) fun w => w60 (by omega)))
end JUDM7
