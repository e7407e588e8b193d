/-! THE JUDGE OF A FUNCTION: its open blocks are those that were read -/
def jO (J : JS) : List (Option Nat) := (jB J).map bkO
theorem jO_of {J K : JS} (h : jB K = jB J) : jO K = jO J := by unfold jO; rw [h]
theorem jO_push {ty : Nat} {J : JS} : jO (jPush ty J) = jO J := by
  unfold jPush
  split <;> rfl
theorem jO_pushG {ty : Nat} {J : JS} : jO (jPushG ty J) = jO J := by
  unfold jPushG
  split
  · rfl
  · exact jO_push
theorem jO_pop {ty : Nat} {J : JS} : jO (jPop ty J).2 = jO J := jO_of jPop_B
theorem jO_popG {ty : Nat} {J : JS} : jO (jPopG ty J) = jO J := jO_of jPopG_B
theorem jO_setD {J : JS} {b : Bk} {v : Bool} (hb : jTop J = some b) : (jSetD J b v).map bkO = jO J := by
  obtain ⟨L, hL, hb2⟩ := top_get hb
  apply List.ext_getElem?
  intro k
  unfold jO
  rw [List.getElem?_map, List.getElem?_map]
  by_cases hk : k < (jB J).length
  · have hk2 : k < (jSetD J b v).length := by rw [setD_len hb]; exact hk
    obtain ⟨c0, a1, a2, -⟩ := setD_get hb (List.getElem?_eq_getElem hk2)
    rw [List.getElem?_eq_getElem hk2, a1]
    exact congrArg some a2
  · rw [List.getElem?_eq_none (by rw [setD_len hb]; omega), List.getElem?_eq_none (by omega)]
theorem jO_dead {J : JS} : jO (jDead J) = jO J := by
  unfold jDead
  split
  · rfl
  next b hb => exact jO_setD hb
theorem jO_args {t : Nat → UInt8} {x : Ty} : ∀ (k : Nat) {J : JS}, jO (jArgs t x k J) = jO J
  | 0, _ => rfl
  | k + 1, _ => (jO_args k).trans jO_pop
theorem jO_call {t : Nat → UInt8} {m : Md} {ty : Nat} {J : JS} : jO (jCall t m ty J) = jO J := by
  unfold jCall
  split
  · exact jO_pushG.trans (jO_args _)
  · rfl
theorem jO_turn {a tm b : Nat} {J : JS} : jO (jTurn a tm b J) = jO J := by
  unfold jTurn
  split
  · exact jO_push.trans jO_pop
  · exact jO_push.trans (jO_pop.trans jO_pop)
theorem jO_set {op due : Nat} {J : JS} : jO (jSet op due J) = jO J := by
  unfold jSet
  split
  · exact jO_push
  split
  · exact jO_pop
  · exact jO_push.trans jO_pop
theorem jO_me2 {op : Nat} {J : JS} : jO (jMe2 op J) = jO J := by
  unfold jMe2
  split
  · exact jO_push.trans jO_pop
  · exact jO_pop.trans jO_pop
theorem jO_br {C : List In} {op : Nat} {Ls : List Nat} {J : JS} : jO (jBr C op Ls J) = jO J := by
  have h1 : jO (jBr2 C Ls (jBr1 op J)) = jO J := jO_of (jBr1_B (op := op) (J := J))
  unfold jBr jBr3
  split
  · exact jO_pushG.trans (jO_popG.trans h1)
  · exact jO_dead.trans (jO_popG.trans h1)
theorem jO_part {J : JS} : jO (jPart J) = jO J := jO_of jPart_B
theorem jO_else {J : JS} : jO (jElse J) = jO J := by
  unfold jElse
  split
  · exact jO_part
  next b hb => exact (jO_setD hb).trans jO_part
theorem jO_end {C : List In} {J : JS} : jO (jEnd C J) = (jO J).take ((jO J).length - 1) := by
  unfold jEnd jBlk
  cases ht : jTop J with
  | none =>
    have h0 := top_none ht
    have : jB J = [] := List.eq_nil_of_length_eq_zero h0
    unfold jO
    show (jB J).map bkO = _
    rw [this]
    rfl
  | some b =>
    refine jO_pushG.trans ?_
    unfold jO
    show ((jB J).take ((jB J).length - 1)).map bkO = _
    rw [List.map_take, List.length_map]
theorem jO_open {o : Option Nat} {ty : Nat} {J : JS} (h : (jO J).length < 22) : jO (jOpen o ty J) = jO J ++ [o] := by
  unfold jO at h ⊢
  rw [List.length_map] at h
  unfold jOpen
  rw [if_pos h]
  show (jB J ++ [_]).map bkO = _
  rw [List.map_append]
  rfl
theorem jO_ret {J : JS} : jO (jRet J) = jO J := by
  unfold jRet
  split
  · rfl
  · exact jO_dead.trans jO_popG
/-- the blocks that stand open before INSTRUCTION i -/
def skO2 (s : List (Nat × Nat)) : List (Option Nat) := none :: s.reverse.map fun a => some a.1
def skJ (C : List In) (i : Nat) (J : JS) : Prop := jO J = skO2 (sk C i)
theorem jO_Ie {t : Nat → UInt8} {m : Md} {f i : Nat} {I : In} {J : JS} (h : iOp I = 11) : jO (jI t m f i I J) = (jO J).take ((jO J).length - 1) := by
  unfold jI jStr
  rw [if_pos (by omega), if_neg (by omega), if_neg (by omega), if_neg (by omega), if_neg (by omega), if_pos h]
  exact jO_end
theorem jO_Io {t : Nat → UInt8} {m : Md} {f i : Nat} {I : In} {J : JS} (h : 2 ≤ iOp I ∧ iOp I ≤ 4) (hl : (jO J).length < 22) : jO (jI t m f i I J) = jO J ++ [some i] := by
  unfold jI jStr
  rw [if_pos (by omega), if_neg (by omega), if_neg (by omega)]
  by_cases h4 : iOp I = 4
  · rw [if_pos h4]
    exact (jO_open (by rw [jO_pop]; exact hl)).trans (by rw [jO_pop])
  · rw [if_neg h4, if_neg (by omega), if_neg (by omega)]
    exact jO_open hl
theorem jO_In {t : Nat → UInt8} {m : Md} {f i : Nat} {I : In} {J : JS} (hf : fI I) (h11 : ¬ iOp I = 11) (h24 : ¬ (2 ≤ iOp I ∧ iOp I ≤ 4)) : jO (jI t m f i I J) = jO J := by
  unfold jI
  split
  next hle =>
    have := hf.2.2.2.2.2.2 hle
    unfold jStr
    split
    · exact jO_dead
    split
    · rfl
    split
    · omega
    split
    · exact jO_else
    · omega
  · split
    · split
      · exact jO_ret
      · exact jO_br
    split
    · split
      · unfold jC16
        split
        · exact jO_call
        · rfl
      · exact jO_call.trans jO_pop
    split
    · split
      · exact jO_pop
      · exact jO_push.trans (jO_pop.trans (jO_pop.trans jO_pop))
    split
    · unfold jLoc
      split
      · exact jO_set
      · rfl
    split
    · unfold jGlo
      split
      · split
        · exact jO_push
        · exact jO_pop
      · rfl
    split
    · unfold jMem
      split
      · exact jO_push
      split
      · exact jO_push.trans jO_pop
      · exact jO_me2
    split
    · exact jO_push
    · unfold jNum
      repeat' split
      all_goals exact jO_turn
theorem jO_I {t : Nat → UInt8} {m : Md} {f i : Nat} {I : In} {J : JS} (hf : fI I) (hl : (jO J).length < 22) : jO (jI t m f i I J) = if iOp I = 11 then (jO J).take ((jO J).length - 1) else if 2 ≤ iOp I ∧ iOp I ≤ 4 then jO J ++ [some i] else jO J := by
  by_cases h11 : iOp I = 11
  · rw [if_pos h11]
    exact jO_Ie h11
  rw [if_neg h11]
  by_cases h24 : 2 ≤ iOp I ∧ iOp I ≤ 4
  · rw [if_pos h24]
    exact jO_Io h24 hl
  · rw [if_neg h24]
    exact jO_In hf h11 h24
theorem skJ_step {t : Nat → UInt8} {m : Md} {C : List In} {f i : Nat} {I : In} {J : JS} (h : skJ C i J) (hI : C[i]? = some I) (hf : fI I) (hl : (sk C i).length ≤ 20) (h11 : ¬ (iOp I = 11 ∧ sk C i = [])) : skJ C (i + 1) (jI t m f i I J) := by
  have hlen : (jO J).length = (sk C i).length + 1 := by
    rw [h]
    unfold skO2
    rw [List.length_cons, List.length_map, List.length_reverse]
  unfold skJ
  rw [jO_I hf (by omega), sk_succ hI, h]
  unfold skS
  by_cases c11 : iOp I = 11
  · rw [if_pos c11, if_pos c11]
    cases hs : sk C i with
    | nil => exact absurd ⟨c11, hs⟩ h11
    | cons a r =>
      show (skO2 (a :: r)).take ((skO2 (a :: r)).length - 1) = skO2 r
      unfold skO2
      rw [List.reverse_cons, List.map_append, List.length_cons, List.length_append]
      show ((none :: (r.reverse.map (fun a => some a.1) ++ [some a.1])).take ((r.reverse.map (fun a => some a.1)).length + 1) : List (Option Nat)) = _
      rw [List.take_succ_cons, List.take_left]
  rw [if_neg c11, if_neg c11]
  by_cases c24 : 2 ≤ iOp I ∧ iOp I ≤ 4
  · rw [if_pos c24, if_neg (by omega), if_pos c24]
    unfold skO2
    rw [List.reverse_cons, List.map_append]
    rfl
  rw [if_neg c24]
  by_cases c5 : iOp I = 5
  · rw [if_pos c5]
    cases hs : sk C i with
    | nil => rfl
    | cons a r =>
      obtain ⟨o, x⟩ := a
      show skO2 ((o, x) :: r) = skO2 ((o, i) :: r)
      unfold skO2
      rw [List.reverse_cons, List.reverse_cons, List.map_append, List.map_append]
      rfl
  · rw [if_neg c5, if_neg c24]
theorem skJ.cx {C : List In} {i : Nat} {J : JS} (h : skJ C i J) (hi : i ≤ C.length) : cx C J := fun k b o hb ho => by
  have h1 : (jO J)[k]? = some (some o) := by
    unfold jO
    rw [List.getElem?_map, hb]
    exact congrArg some ho
  rw [h] at h1
  have h2 : some o ∈ skO2 (sk C i) := List.mem_of_getElem? h1
  unfold skO2 at h2
  rcases List.mem_cons.mp h2 with z | z
  · cases z
  · obtain ⟨a, ha, hao⟩ := List.mem_map.mp z
    cases hao
    exact (sk_kind hi (List.mem_reverse.mp ha)).1
theorem skJ.pos {C : List In} {i : Nat} {J : JS} (h : skJ C i J) : 0 < (jB J).length := by
  have : (jO J).length = (jB J).length := List.length_map ..
  rw [← this, h]
  exact Nat.succ_pos _
