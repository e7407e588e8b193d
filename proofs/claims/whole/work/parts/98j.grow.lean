/-! THE JUDGE OF A FUNCTION: an INSTRUCTION puts one value at most -/
theorem T_push {ty : Nat} {J : JS} : (jT (jPush ty J)).length ≤ (jT J).length + 1 := by
  unfold jPush
  split
  · show (jT J ++ [ty]).length ≤ _
    rw [List.length_append]
    exact Nat.le_refl _
  · exact Nat.le_succ _
theorem T_pushG {ty : Nat} {J : JS} : (jT (jPushG ty J)).length ≤ (jT J).length + 1 := by
  unfold jPushG
  split
  · exact Nat.le_succ _
  · exact T_push
theorem T_dead {J : JS} : (jT (jDead J)).length ≤ (jT J).length := by
  unfold jDead
  split
  · exact Nat.le_refl _
  · show ((jT J).take _).length ≤ _
    rw [List.length_take]
    omega
theorem T_part {J : JS} : (jT (jPart J)).length ≤ (jT J).length := by
  unfold jPart
  split
  · exact Nat.le_refl _
  · exact jPopG_T
theorem T_call {t : Nat → UInt8} {m : Md} {ty : Nat} {J : JS} : (jT (jCall t m ty J)).length ≤ (jT J).length + 1 := by
  unfold jCall
  split
  · exact Nat.le_trans T_pushG (Nat.succ_le_succ (jArgs_T _))
  · exact Nat.le_succ _
theorem T_turn {a tm b : Nat} {J : JS} : (jT (jTurn a tm b J)).length ≤ (jT J).length + 1 := by
  unfold jTurn
  refine Nat.le_trans T_push (Nat.succ_le_succ ?_)
  split
  · exact jPop_T
  · exact Nat.le_trans jPop_T jPop_T
theorem T_open {o : Option Nat} {ty : Nat} {J : JS} : jT (jOpen o ty J) = jT J := by
  unfold jOpen
  split <;> rfl
theorem T_br {C : List In} {op : Nat} {Ls : List Nat} {J : JS} : (jT (jBr C op Ls J)).length ≤ (jT J).length + 1 := by
  have h1 : (jT (jBr2 C Ls (jBr1 op J))).length ≤ (jT J).length := by
    show (jT (jBr1 op J)).length ≤ _
    unfold jBr1
    split
    · exact Nat.le_refl _
    · exact jPop_T
  unfold jBr jBr3
  split
  · exact Nat.le_trans T_pushG (Nat.succ_le_succ (Nat.le_trans jPopG_T h1))
  · exact Nat.le_succ_of_le (Nat.le_trans T_dead (Nat.le_trans jPopG_T h1))
theorem T_I {t : Nat → UInt8} {m : Md} {f i : Nat} {I : In} {J : JS} : (jT (jI t m f i I J)).length ≤ (jT J).length + 1 := by
  unfold jI
  split
  · unfold jStr
    split
    · exact Nat.le_succ_of_le T_dead
    split
    · exact Nat.le_succ _
    split
    · rw [T_open]
      exact Nat.le_succ_of_le jPop_T
    split
    · unfold jElse
      split
      · exact Nat.le_succ_of_le T_part
      · exact Nat.le_succ_of_le T_part
    split
    · unfold jEnd jBlk
      split
      · exact Nat.le_succ _
      · exact Nat.le_trans T_pushG (Nat.succ_le_succ T_part)
    · rw [T_open]
      exact Nat.le_succ _
  split
  · split
    · unfold jRet
      split
      · exact Nat.le_succ _
      · exact Nat.le_succ_of_le (Nat.le_trans T_dead jPopG_T)
    · exact T_br
  split
  · split
    · unfold jC16
      split
      · exact T_call
      · exact Nat.le_succ _
    · exact Nat.le_trans T_call (Nat.succ_le_succ jPop_T)
  split
  · split
    · exact Nat.le_succ_of_le jPop_T
    · exact Nat.le_trans T_push (Nat.succ_le_succ (Nat.le_trans jPop_T (Nat.le_trans jPop_T jPop_T)))
  split
  · unfold jLoc jSet
    split
    · split
      · exact T_push
      split
      · exact Nat.le_succ_of_le jPop_T
      · exact Nat.le_trans T_push (Nat.succ_le_succ jPop_T)
    · exact Nat.le_succ _
  split
  · unfold jGlo
    split
    · split
      · exact T_push
      · exact Nat.le_succ_of_le jPop_T
    · exact Nat.le_succ _
  split
  · unfold jMem jMe2
    split
    · exact T_push
    split
    · exact Nat.le_trans T_push (Nat.succ_le_succ jPop_T)
    split
    · exact Nat.le_trans T_push (Nat.succ_le_succ jPop_T)
    · exact Nat.le_succ_of_le (Nat.le_trans jPop_T jPop_T)
  split
  · exact T_push
  · unfold jNum
    repeat' split
    all_goals exact T_turn
