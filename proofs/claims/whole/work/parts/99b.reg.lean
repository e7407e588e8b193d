/-! RUNNING: the judge's states of one function, in order; what stands open -/
/-- all is as in J but what is above the floor of the innermost block, and whether that is dead -/
def sm (J K : JS) : Prop := ∃ b v, jTop J = some b ∧ jB K = jSetD J b v ∧ (jT K).take (bkF b) = (jT J).take (bkF b) ∧ bkF b ≤ (jT K).length
def stays (J K : JS) : Prop := jok K ∧ sm J K
theorem set_top {J K : JS} {b : Bk} {v : Bool} (h : jTop J = some b) (e : jB K = jSetD J b v) : jTop K = some (bkO b, bkF b, bkG b, v) ∧ (jB K).length = (jB J).length ∧ (jB K).take ((jB K).length - 1) = (jB J).take ((jB J).length - 1) := by
  have hl : (jB K).length = (jB J).length := by rw [e]; exact setD_len h
  obtain ⟨L, hL, hb⟩ := top_get h
  have htl : ((jB J).take ((jB J).length - 1)).length = L := by
    rw [List.length_take]
    omega
  refine ⟨?_, hl, ?_⟩
  · unfold jTop
    rw [hl, e]
    unfold jSetD
    rw [List.getElem?_append_right (by omega), htl, hL, Nat.add_sub_cancel, Nat.sub_self]
    rfl
  · rw [hl, e]
    unfold jSetD
    rw [List.take_append_of_le_length (by omega), List.take_take, Nat.min_self]
theorem set_self {J : JS} {b : Bk} (h : jTop J = some b) : jSetD J b (bkD b) = jB J := by
  obtain ⟨L, hL, hb⟩ := top_get h
  have hlt : L < (jB J).length := by omega
  rw [List.getElem?_eq_getElem hlt] at hb
  unfold jSetD
  have e : (bkO b, bkF b, bkG b, bkD b) = (jB J)[L] := (Option.some.inj hb).symm
  rw [e, hL, Nat.add_sub_cancel, List.take_append_getElem hlt, ← hL, List.take_length]
section SM
variable {J K L : JS} {due ty : Nat}
theorem sm.rf (h : jok J) (h0 : 0 < (jB J).length) : sm J J := by
  obtain ⟨k, b, a1, a2, a3⟩ := top_some h0
  exact ⟨b, bkD b, a3, (set_self a3).symm, rfl, (h.2.2.2.1 k b a2).1⟩
theorem sm.tr (h : sm J K) (h2 : sm K L) : sm J L := by
  obtain ⟨b, v, a1, a2, a3, a4⟩ := h
  obtain ⟨c, w, b1, b2, b3, b4⟩ := h2
  obtain ⟨e1, e2, e3⟩ := set_top a1 a2
  rw [e1] at b1
  cases b1
  refine ⟨b, w, a1, ?_, b3.trans a3, b4⟩
  rw [b2]
  unfold jSetD
  rw [e3]
  rfl
theorem sm.pos (h : sm J K) : 0 < (jB K).length := by
  obtain ⟨b, v, a1, a2, -⟩ := h
  obtain ⟨e1, e2, e3⟩ := set_top a1 a2
  obtain ⟨k, hk, -⟩ := top_get a1
  omega
theorem sm.g {g : Bool} (h : sm J K) : sm J (jT K, jB K, g) := h
theorem stays.rf (h : jok J) (h0 : 0 < (jB J).length) : stays J J := ⟨h, .rf h h0⟩
theorem stays.g {g : Bool} (h : stays J K) : stays J (jT K, jB K, g) := ⟨h.1, h.2⟩
theorem stays.and {g : Bool} (h : stays J K) : stays J (jAnd K g) := ⟨h.1, h.2⟩
theorem stays.bad (h : stays J K) : stays J (jBad K) := ⟨h.1, h.2⟩
theorem stays.step (h : stays J K) (h1 : jok L) (h2 : sm K L) : stays J L := ⟨h1, h.2.tr h2⟩
theorem stays.pop (h : stays J K) : stays J (jPop due K).2 := by
  refine h.step h.1.pop ?_
  obtain ⟨k, b, a1, a2, a3⟩ := top_some h.2.pos
  have hf := (h.1.2.2.2.1 k b a2).1
  by_cases hz : bkF b < (jT K).length
  · rw [jPop_some a3 hz]
    refine ⟨b, bkD b, a3, (set_self a3).symm, ?_, ?_⟩
    · show ((jT K).take ((jT K).length - 1)).take (bkF b) = _
      rw [List.take_take, Nat.min_eq_left (by omega)]
    · show _ ≤ ((jT K).take ((jT K).length - 1)).length
      rw [List.length_take]
      omega
  · rw [jPop_floor a3 hz]
    exact ⟨b, bkD b, a3, (set_self a3).symm, rfl, hf⟩
theorem stays.popG (h : stays J K) : stays J (jPopG due K) := by
  unfold jPopG
  split
  · exact h
  · exact h.pop
theorem stays.push (h : stays J K) (ht : ty < 200) : stays J (jPush ty K) := by
  refine h.step (h.1.push ht) ?_
  obtain ⟨k, b, a1, a2, a3⟩ := top_some h.2.pos
  have hf := (h.1.2.2.2.1 k b a2).1
  unfold jPush
  split
  · refine ⟨b, bkD b, a3, (set_self a3).symm, ?_, ?_⟩
    · show (jT K ++ [ty]).take (bkF b) = _
      rw [List.take_append_of_le_length hf]
    · show _ ≤ (jT K ++ [ty]).length
      rw [List.length_append]
      omega
  · exact .rf h.1 h.2.pos
theorem stays.pushG (h : stays J K) (ht : ty < 200) : stays J (jPushG ty K) := by
  unfold jPushG
  split
  · exact h
  · exact h.push ht
theorem stays.dead (h : stays J K) : stays J (jDead K) := by
  refine h.step h.1.dead ?_
  obtain ⟨k, b, a1, a2, a3⟩ := top_some h.2.pos
  have hf := (h.1.2.2.2.1 k b a2).1
  unfold jDead
  rw [a3]
  refine ⟨b, true, a3, rfl, ?_, ?_⟩
  · show ((jT K).take (bkF b)).take (bkF b) = _
    rw [List.take_take, Nat.min_self]
  · show _ ≤ ((jT K).take (bkF b)).length
    rw [List.length_take]
    omega
theorem stays.part (h : stays J K) : stays J (jPart K) := by
  unfold jPart
  split
  · exact h
  · exact h.popG.and
theorem stays.els (h : stays J K) : stays J (jElse K) := by
  have hp := h.part
  unfold jElse
  split
  · exact hp
  next b hb =>
    obtain ⟨k, hk, hb2⟩ := top_get hb
    have hf := (hp.1.2.2.2.1 k b hb2).1
    refine hp.step ?_ ⟨b, false, hb, rfl, rfl, hf⟩
    have := h.1.els
    unfold jElse at this
    rw [hb] at this
    exact this
theorem stays.args {t : Nat → UInt8} {x : Ty} : ∀ (k : Nat) {K : JS}, stays J K → stays J (jArgs t x k K)
  | 0, _, h => h
  | k + 1, _, h => stays.args k h.pop
theorem stays.turn {a tm b : Nat} (h : stays J K) (hb : b < 200) : stays J (jTurn a tm b K) := by
  unfold jTurn
  split
  · exact h.pop.push hb
  · exact h.pop.pop.push hb
end SM
section REG
variable {t : Nat → UInt8} {n f : Nat} {m : Md}
theorem stays_call {ty : Nat} {J K : JS} (hf : fcM t n m) (h : stays J K) : stays J (jCall t m ty K) := by
  unfold jCall
  split
  next hty => exact (h.args _).pushG (isT0.lt (hf.1 _ (List.mem_of_getElem? (tyAt_get hty))).2.2.2)
  · exact h.bad
/-- an INSTRUCTION that opens or ends no block -/
theorem stays_I {i : Nat} {I : In} {J : JS} (hf : fcM t n m) (hF : FX m f) (hI : fI I) (hok : jok J) (h0 : 0 < (jB J).length) (h11 : iOp I ≠ 11) (h24 : ¬ (2 ≤ iOp I ∧ iOp I ≤ 4)) : stays J (jI t m f i I J) := by
  have h := stays.rf hok h0
  have hB := hI.2.2.2.2.2.2
  unfold jI
  split
  · unfold jStr
    split
    · exact h.dead
    split
    · exact h
    rw [if_neg (by omega)]
    rw [if_pos (by have := hB (by omega); omega)]
    exact h.els
  split
  · split
    · unfold jRet
      split
      · exact h
      · exact h.popG.dead
    · have h1 : stays J (jBr1 (iOp I) J) := by
        unfold jBr1
        split
        · exact h
        · exact h.pop
      have hd := jDue_lt (C := (mdC m).2) (Ls := iL I) h1.1
      unfold jBr jBr3 jBr2
      split
      · exact (h1.and.popG).pushG hd
      · exact (h1.and.popG).dead
  split
  · split
    · unfold jC16
      split
      · exact stays_call hf h
      · exact h.bad
    · exact stays_call hf h.and.pop
  split
  · split
    · exact h.pop
    · unfold jSel
      exact (h.pop.pop.pop).push (jPop_lt h.pop.pop.1 (jPop_lt h.pop.1 (by decide)))
  split
  · unfold jLoc
    split
    next hB => 
      have ht := (loTy_T hf hF hB).lt
      unfold jSet
      split
      · exact h.push ht
      split
      · exact h.pop
      · exact h.pop.push ht
    · exact h.bad
  split
  · unfold jGlo
    split
    next hB =>
      split
      · have : (mdG m)[iB I]? = some (glAt m (iB I)) := by
          unfold glAt
          rw [List.getElem?_eq_getElem hB]
          rfl
        exact h.push (hf.2.2.2.2.1 _ (List.mem_of_getElem? this)).1.lt
      · exact h.and.pop
    · exact h.bad
  split
  · unfold jMem
    split
    · exact h.and.push (by decide)
    split
    · exact h.and.pop.push (by decide)
    · unfold jMe2
      split
      · exact h.and.and.pop.push acc_lt
      · exact h.and.and.pop.pop
  split
  · refine h.push ?_
    split <;> decide
  · unfold jNum
    split
    · exact h.turn (by decide)
    split
    · exact h.turn (by decide)
    split
    · exact h.turn (by decide)
    split
    · exact h.turn (by decide)
    split
    · exact h.turn (by decide)
    · exact h.turn (by decide)
theorem jI_11 {i : Nat} {I : In} {J : JS} (h : iOp I = 11) : jI t m f i I J = jBlk (eBad (mdC m).2 J) J := by
  unfold jI
  rw [h]
  rfl
theorem jI_24 {i : Nat} {I : In} {J : JS} (h : 2 ≤ iOp I ∧ iOp I ≤ 4) : jI t m f i I J = jOpen (some i) (iB I) (if iOp I = 4 then (jPop 127 J).2 else J) := by
  unfold jI jStr
  rw [if_pos (by omega), if_neg (by omega), if_neg (by omega)]
  by_cases z : iOp I = 4
  · rw [if_pos z, if_pos z]
  · rw [if_neg z, if_neg (by omega), if_neg (by omega), if_neg z]
theorem jok_I {i : Nat} {I : In} {J : JS} (hf : fcM t n m) (hF : FX m f) (hI : fI I) (hok : jok J) (h0 : 0 < (jB J).length) (hi : i < 4000) : jok (jI t m f i I J) := by
  by_cases h11 : iOp I = 11
  · rw [jI_11 h11]
    exact hok.blk
  by_cases h24 : 2 ≤ iOp I ∧ iOp I ≤ 4
  · rw [jI_24 h24]
    refine jok.opn ?_ (hI.2.1 h24) fun k hk => by cases hk; exact hi
    split
    · exact hok.pop
    · exact hok
  · exact (stays_I hf hF hI hok h0 h11 h24).1
/-! block d of J0 is block d of K, and nothing below it has changed -/
def pre (d h : Nat) (b0 : Bk) (J0 K : JS) : Prop := d < (jB K).length ∧ (jB K).take d = (jB J0).take d ∧ (∃ v, (jB K)[d]? = some (bkO b0, bkF b0, bkG b0, v)) ∧ (jT K).take h = (jT J0).take h ∧ h ≤ (jT K).length
theorem pre.sm {d h : Nat} {b0 : Bk} {J0 K L : JS} (p : pre d h b0 J0 K) (hh : bkF b0 = h) (hok : jok K) (s : sm K L) : pre d h b0 J0 L := by
  obtain ⟨p1, p2, ⟨v0, p3⟩, p4, p5⟩ := p
  obtain ⟨b, v, a1, a2, a3, a4⟩ := s
  obtain ⟨e1, e2, e3⟩ := set_top a1 a2
  obtain ⟨k, hk, hb⟩ := top_get a1
  have hle : h ≤ bkF b := by
    have := hok.2.2.2.2 d k _ b (by omega) p3 hb
    rw [← hh]
    exact this
  refine ⟨by omega, ?_, ?_, ?_, by omega⟩
  · have h1 : (jB L).take d = ((jB L).take ((jB L).length - 1)).take d := by rw [List.take_take, Nat.min_eq_left (by omega)]
    rw [h1, e3, List.take_take, Nat.min_eq_left (by omega)]
    exact p2
  · by_cases hd : d = k
    · subst hd
      rw [p3] at hb
      cases hb
      refine ⟨v, ?_⟩
      have h1 : jTop L = (jB L)[d]? := by
        unfold jTop
        congr 1
        omega
      rw [← h1]
      exact e1
    · refine ⟨v0, ?_⟩
      have h1 : (jB L)[d]? = ((jB L).take ((jB L).length - 1))[d]? := by rw [List.getElem?_take, if_pos (by omega)]
      rw [h1, e3, List.getElem?_take, if_pos (by omega)]
      exact p3
  · have h1 : ∀ T : List Nat, T.take h = (T.take (bkF b)).take h := fun T => by rw [List.take_take, Nat.min_eq_left hle]
    rw [h1, a3, ← h1]
    exact p4
theorem pre.opn {d h : Nat} {b0 : Bk} {J0 K : JS} {o : Option Nat} {ty : Nat} (p : pre d h b0 J0 K) (hl : (jB K).length < 22) : pre d h b0 J0 (jOpen o ty K) := by
  obtain ⟨p1, p2, ⟨v0, p3⟩, p4, p5⟩ := p
  unfold jOpen
  rw [if_pos hl]
  refine ⟨?_, ?_, ⟨v0, ?_⟩, p4, p5⟩
  · show d < (jB K ++ [_]).length
    rw [List.length_append]
    omega
  · show (jB K ++ [_]).take d = _
    rw [List.take_append_of_le_length (by omega)]
    exact p2
  · show (jB K ++ [_])[d]? = _
    rw [List.getElem?_append_left p1]
    exact p3
theorem blk_of {bad : Bool} {J : JS} (hok : jok J) (h0 : 0 < (jB J).length) : ∃ b, jTop J = some b ∧ jB (jBlk bad J) = (jB J).take ((jB J).length - 1) ∧ bkF b ≤ (jT (jPart J)).length ∧ (jT (jPart J)).take (bkF b) = (jT J).take (bkF b) ∧ jBlk bad J = jPushG (bkG b) (jT (jPart J), (jB J).take ((jB J).length - 1), jG (jPart J) && !(bad && decide (bkG b ≠ 0))) := by
  obtain ⟨k, b, a1, a2, a3⟩ := top_some h0
  obtain ⟨-, b', v, c1, c2, c3, c4⟩ := (stays.rf hok h0).part
  rw [a3] at c1
  cases c1
  have e : jBlk bad J = jPushG (bkG b) (jT (jPart J), (jB J).take ((jB J).length - 1), jG (jPart J) && !(bad && decide (bkG b ≠ 0))) := by
    unfold jBlk
    rw [a3]
  refine ⟨b, a3, ?_, c4, c3, e⟩
  rw [e]
  unfold jPushG jPush
  split
  · rfl
  split <;> rfl
theorem T_pushG_take {J : JS} {g h : Nat} (hh : h ≤ (jT J).length) : (jT (jPushG g J)).take h = (jT J).take h ∧ h ≤ (jT (jPushG g J)).length := by
  unfold jPushG jPush
  split
  · exact ⟨rfl, hh⟩
  split
  · refine ⟨?_, ?_⟩
    · show (jT J ++ [g]).take h = _
      rw [List.take_append_of_le_length hh]
    · show h ≤ (jT J ++ [g]).length
      rw [List.length_append]
      omega
  · exact ⟨rfl, hh⟩
theorem pre.blk {d h : Nat} {b0 : Bk} {J0 K : JS} {bad : Bool} (p : pre d h b0 J0 K) (hh : bkF b0 = h) (hok : jok K) (hd : d + 1 < (jB K).length) : pre d h b0 J0 (jBlk bad K) := by
  obtain ⟨p1, p2, ⟨v0, p3⟩, p4, p5⟩ := p
  obtain ⟨b, a1, a2, a3, a4, a5⟩ := blk_of (bad := bad) hok (by omega)
  obtain ⟨k, hk, hb⟩ := top_get a1
  have hle : h ≤ bkF b := by
    have := hok.2.2.2.2 d k _ b (by omega) p3 hb
    rw [← hh]
    exact this
  obtain ⟨t1, t2⟩ := T_pushG_take (J := (jT (jPart K), (jB K).take ((jB K).length - 1), jG (jPart K) && !(bad && decide (bkG b ≠ 0)))) (g := bkG b) (h := h) (Nat.le_trans hle a3)
  rw [← a5] at t1 t2
  refine ⟨?_, ?_, ⟨v0, ?_⟩, ?_, t2⟩
  · rw [a2, List.length_take]
    omega
  · rw [a2, List.take_take, Nat.min_eq_left (by omega)]
    exact p2
  · rw [a2, List.getElem?_take, if_pos (by omega)]
    exact p3
  · rw [t1]
    show (jT (jPart K)).take h = _
    have h1 : ∀ T : List Nat, T.take h = (T.take (bkF b)).take h := fun T => by rw [List.take_take, Nat.min_eq_left hle]
    rw [h1, a4, ← h1]
    exact p4
end REG
