/-! STRING CONSTANTS, written by a program (wip/whole/gen/gen_strs.py): whose, its entry, its text, its bytes; the methods of String that are called on an object. -/
abbrev fkL : Type := String × Nat × String × List Int32
def fk_lits : List fkL := [("FoldForge$Parser", 118, "fun  let  in   if   then else matchwith nil  cons do   int  list act  ", [102, 117, 110, 32, 32, 108, 101, 116, 32, 32, 105, 110, 32, 32, 32, 105, 102, 32, 32, 32, 116, 104, 101, 110, 32, 101, 108, 115, 101, 32, 109, 97, 116, 99, 104, 119, 105, 116, 104, 32, 110, 105, 108, 32, 32, 99, 111, 110, 115, 32, 100, 111, 32, 32, 32, 105, 110, 116, 32, 32, 108, 105, 115, 116, 32, 97, 99, 116, 32, 32]),
  ("FoldForge$Parser", 144, "(),:;=+-*/%<&|", [40, 41, 44, 58, 59, 61, 43, 45, 42, 47, 37, 60, 38, 124]),
  ("FoldForgeModel", 663, "(),:;=+-*/%<&|", [40, 41, 44, 58, 59, 61, 43, 45, 42, 47, 37, 60, 38, 124]),
  ("FoldForgeModel", 713, "fun", [102, 117, 110]),
  ("FoldForgeModel", 693, "fun let in if then else match with nil cons do int list act ", [102, 117, 110, 32, 108, 101, 116, 32, 105, 110, 32, 105, 102, 32, 116, 104, 101, 110, 32, 101, 108, 115, 101, 32, 109, 97, 116, 99, 104, 32, 119, 105, 116, 104, 32, 110, 105, 108, 32, 99, 111, 110, 115, 32, 100, 111, 32, 105, 110, 116, 32, 108, 105, 115, 116, 32, 97, 99, 116, 32]),
  ("FoldForgeModel", 704, "int", [105, 110, 116]),
  ("FoldForgeModel", 706, "list", [108, 105, 115, 116]),
  ("FoldForgeModel", 708, "act", [97, 99, 116]),
  ("FoldForgeModel", 736, "let", [108, 101, 116]),
  ("FoldForgeModel", 755, "in", [105, 110]),
  ("FoldForgeModel", 740, "if", [105, 102]),
  ("FoldForgeModel", 757, "then", [116, 104, 101, 110]),
  ("FoldForgeModel", 759, "else", [101, 108, 115, 101]),
  ("FoldForgeModel", 745, "match", [109, 97, 116, 99, 104]),
  ("FoldForgeModel", 761, "with", [119, 105, 116, 104]),
  ("FoldForgeModel", 763, "nil", [110, 105, 108]),
  ("FoldForgeModel", 787, "cons", [99, 111, 110, 115]),
  ("FoldForgeModel", 789, "do", [100, 111])]
abbrev fk_nL : Nat := 18
def fk_lq (i : Nat) : fkL := fk_lits.getD i ("", 0, "", [])
/-- the bytes of constant i, their number -/
def fk_bt (i : Nat) : List Int32 := (fk_lq i).2.2.2
def fk_ln (i : Nat) : Nat := (fk_bt i).length
theorem fk_lits_in : ∀ q ∈ fk_lits, Cond.stringRef q.1 q.2.1 q.2.2.1 ∈ lw_tbl := List.forall_mem_cons.mpr ⟨fk_in6 (List.mem_of_getElem? (i := 55) rfl), List.forall_mem_cons.mpr ⟨fk_in6 (List.mem_of_getElem? (i := 121) rfl), List.forall_mem_cons.mpr ⟨fk_in11 (List.mem_of_getElem? (i := 10) rfl), List.forall_mem_cons.mpr ⟨fk_in11 (List.mem_of_getElem? (i := 16) rfl), List.forall_mem_cons.mpr ⟨fk_in11 (List.mem_of_getElem? (i := 39) rfl), List.forall_mem_cons.mpr ⟨fk_in11 (List.mem_of_getElem? (i := 52) rfl), List.forall_mem_cons.mpr ⟨fk_in11 (List.mem_of_getElem? (i := 53) rfl), List.forall_mem_cons.mpr ⟨fk_in11 (List.mem_of_getElem? (i := 54) rfl), List.forall_mem_cons.mpr ⟨fk_in11 (List.mem_of_getElem? (i := 59) rfl), List.forall_mem_cons.mpr ⟨fk_in11 (List.mem_of_getElem? (i := 68) rfl), List.forall_mem_cons.mpr ⟨fk_in11 (List.mem_of_getElem? (i := 69) rfl), List.forall_mem_cons.mpr ⟨fk_in11 (List.mem_of_getElem? (i := 74) rfl), List.forall_mem_cons.mpr ⟨fk_in11 (List.mem_of_getElem? (i := 75) rfl), List.forall_mem_cons.mpr ⟨fk_in11 (List.mem_of_getElem? (i := 76) rfl), List.forall_mem_cons.mpr ⟨fk_in11 (List.mem_of_getElem? (i := 81) rfl), List.forall_mem_cons.mpr ⟨fk_in11 (List.mem_of_getElem? (i := 82) rfl), List.forall_mem_cons.mpr ⟨fk_in11 (List.mem_of_getElem? (i := 107) rfl), List.forall_mem_cons.mpr ⟨fk_in11 (List.mem_of_getElem? (i := 108) rfl), fun _ h => absurd h List.not_mem_nil⟩⟩⟩⟩⟩⟩⟩⟩⟩⟩⟩⟩⟩⟩⟩⟩⟩⟩
abbrev fk_J (q : Nat × Nat) : Prop := fk_mok q.1 ∧ Cond.instanceMethod (fk_M q.1).1 ∈ lw_tbl ∧ Cond.selects (fk_M q.1).1.cls (fk_M q.1).1 (fk_M q.1).1 ∈ lw_tbl ∧ fk_np q.1 q.2 ∧ (fk_M q.1).2.2.1 ≤ 21 ∧ (fk_M q.1).1.cls = "java/lang/String"
set_option maxRecDepth 100000 in
theorem fk_j152 : fk_J (152, 0) := ⟨fk_q152, fk_in6 (List.mem_of_getElem? (i := 57) rfl), fk_in6 (List.mem_of_getElem? (i := 58) rfl), by decide +kernel, by decide +kernel, rfl⟩
set_option maxRecDepth 100000 in
theorem fk_j153 : fk_J (153, 0) := ⟨fk_q153, fk_in6 (List.mem_of_getElem? (i := 61) rfl), fk_in6 (List.mem_of_getElem? (i := 62) rfl), by decide +kernel, by decide +kernel, rfl⟩
set_option maxRecDepth 100000 in
theorem fk_j155 : fk_J (155, 1) := ⟨fk_q155, fk_in6 (List.mem_of_getElem? (i := 71) rfl), fk_in6 (List.mem_of_getElem? (i := 72) rfl), by decide +kernel, by decide +kernel, rfl⟩
set_option maxRecDepth 100000 in
theorem fk_j156 : fk_J (156, 0) := ⟨fk_q156, fk_in6 (List.mem_of_getElem? (i := 75) rfl), fk_in6 (List.mem_of_getElem? (i := 76) rfl), by decide +kernel, by decide +kernel, rfl⟩
set_option maxRecDepth 100000 in
theorem fk_j166 : fk_J (166, 1) := ⟨fk_q166, fk_in6 (List.mem_of_getElem? (i := 123) rfl), fk_in6 (List.mem_of_getElem? (i := 124) rfl), by decide +kernel, by decide +kernel, rfl⟩
set_option maxRecDepth 100000 in
theorem fk_j167 : fk_J (167, 2) := ⟨fk_q167, fk_in6 (List.mem_of_getElem? (i := 127) rfl), fk_in6 (List.mem_of_getElem? (i := 128) rfl), by decide +kernel, by decide +kernel, rfl⟩
def fk_Jl : List (Nat × Nat) := [(152, 0), (153, 0), (155, 1), (156, 0), (166, 1), (167, 2)]
theorem fk_Jl_ok : ∀ q ∈ fk_Jl, fk_J q := List.forall_mem_cons.mpr ⟨fk_j152, List.forall_mem_cons.mpr ⟨fk_j153, List.forall_mem_cons.mpr ⟨fk_j155, List.forall_mem_cons.mpr ⟨fk_j156, List.forall_mem_cons.mpr ⟨fk_j166, List.forall_mem_cons.mpr ⟨fk_j167, fun _ h => absurd h List.not_mem_nil⟩⟩⟩⟩⟩⟩
