/-! THE JUDGE OF A FUNCTION: its smallest steps; the reference -/
def pI32 (C : List In) (o : Option Nat) : Int32 := match o with
  | some k => nI (posOf C k)
  | none => -1
def rBM (C : List In) (b : Bk) (k : Nat) (σ : fkS) : Prop := σ.1 144 k = pI32 C (bkO b) ∧ σ.1 143 k = nI (bkF b) ∧ σ.1 141 k = nI (bkG b) ∧ σ.1 145 k = b2i (bkD b) ∧ σ.1 142 k = nI (bNeed C b)
def mA (C : List In) (J : JS) (σ : fkS) : Prop := σ.1 103 53 = nI (jT J).length ∧ (∀ (k x : Nat), (jT J)[k]? = some x → σ.1 140 k = nI x) ∧ σ.1 103 54 = nI (jB J).length ∧ (∀ (k : Nat) (b : Bk), (jB J)[k]? = some b → rBM C b k σ) ∧ σ.1 103 57 = b2i (jG J)
def mJ (C : List In) (J : JS) (σ : fkS) : Prop := jok J ∧ mA C J σ
def sMg (c j : Nat) : Bool := (Nat.beq c 103 && (Nat.beq j 53 || Nat.beq j 54 || Nat.beq j 57)) || Nat.beq c 140 || Nat.beq c 141 || Nat.beq c 142 || Nat.beq c 143 || Nat.beq c 144 || Nat.beq c 145
def QJ (C : List In) (J : JS) (σ σ' : fkS) : Prop := Fr sMg σ σ' ∧ mJ C J σ'
theorem mJ.g {C : List In} {J : JS} {σ : fkS} (h : mJ C J σ) (g : Bool) : mJ C (jT J, jB J, g) (sI σ 103 57 (b2i g)) := ⟨h.1, h.2.1, h.2.2.1, h.2.2.2.1, h.2.2.2.2.1, rfl⟩
theorem QJ.g {C : List In} {J : JS} {σ : fkS} (h : mJ C J σ) (g : Bool) : QJ C (jT J, jB J, g) σ (sI σ 103 57 (b2i g)) := ⟨Fr.rf.sI rfl, h.g g⟩
theorem QJ.rf {C : List In} {J : JS} {σ : fkS} (h : mJ C J σ) : QJ C J σ σ := ⟨Fr.rf, h⟩
theorem QJ.tr {C : List In} {J J2 : JS} {σ σ1 σ2 : fkS} (h : QJ C J σ σ1) (h2 : QJ C J2 σ1 σ2) : QJ C J2 σ σ2 := ⟨h.1.tr h2.1, h2.2⟩
theorem top_some {J : JS} (h : 0 < (jB J).length) : ∃ L b, (jB J).length = L + 1 ∧ (jB J)[L]? = some b ∧ jTop J = some b := by
  cases ht : jTop J with
  | none =>
    have := top_none ht
    omega
  | some b =>
    obtain ⟨L, hL, hb⟩ := top_get ht
    exact ⟨L, b, hL, hb, rfl⟩
section JUDM3
variable {d : Nat} {C : List In} {J : JS} {σ : fkS}
theorem m_jpush {ty : Nat} (h : mJ C J σ) (ht : ty < 200) (hl : (jT J).length < 4080) : Cv d 277 [.ref 103, .int (nI ty)] σ (fun σ' => QJ C (jPush ty J) σ σ') := by
  refine S_M_push ?_
  have e : jPush ty J = (jT J ++ [ty], jB J, jG J) := if_pos (by omega)
  rw [h.2.1]
  refine ⟨vp_in_nI hl (by decide), (Fr.rf.sI rfl).sI rfl, h.1.push ht, ?_⟩
  rw [e, nI_clamp (by omega), nI_1]
  obtain ⟨a1, a2, a3, a4, a5⟩ := h.2
  refine ⟨?_, fun k x hx => ?_, a3, a4, a5⟩
  · show nI ((jT J).length + 1) = nI (jT J ++ [ty]).length
    rw [List.length_append]
    rfl
  · show (sI σ 140 (jT J).length (nI ty)).1 140 k = nI x
    rw [sI3]
    rcases get_snoc hx with ⟨y, y2⟩ | ⟨y, rfl⟩
    · rw [if_neg (by omega)]
      exact a2 k x y
    · rw [if_pos y]
theorem m_jpopG {ty : Nat} (h : mJ C J σ) (ht : ty < 200) (hl : (jT J).length ≤ 4080) (h0 : 0 < (jB J).length) : Cv (d + 1) 273 [.ref 103, .int (nI ty)] σ (fun σ' => QJ C (jPopG ty J) σ σ') := by
  have hB : (jB J).length ≤ 22 := h.1.2.1
  refine S_M_popOf (And.comm.mp (pk_eq ty 0 (fun z => ?_) (fun z => ?_)))
  · have e : jPopG ty J = J := if_pos z
    rw [e]
    exact QJ.rf h
  · have e : jPopG ty J = (jPop ty J).2 := if_neg z
    rw [e]
    obtain ⟨L, b, hL, hb, ht2⟩ := top_some h0
    obtain ⟨b1, b2, b3, b4, b5⟩ := h.2.2.2.2.1 L b hb
    have hfl : bkF b ≤ (jT J).length := (h.1.2.2.2.1 L b hb).1
    have hvL : vp_in (nI L) 22 := vp_in_nI (by omega) (by decide)
    refine S_M_pop ?_
    rw [h.2.2.2.1, hL, nI_pred, nI_clamp (n := L) (by omega), b2, b4, h.2.1]
    refine ⟨hvL, And.comm.mp (pk_eq (jT J).length (bkF b) (fun y => ⟨hvL, ?_⟩) fun y => ?_)⟩
    · have e2 : jPop ty J = (ty, jAnd J (bkD b)) := by
        unfold jPop
        rw [ht2]
        exact if_neg (by omega)
      rw [e2]
      refine ⟨fun w => ⟨fun _ => ?_, fun w2 => absurd rfl w2⟩, fun w => ⟨fun _ => ?_, fun w2 => absurd rfl w2⟩⟩
      · have : jAnd J (bkD b) = J := by
          unfold jAnd
          rw [b2t w, Bool.and_true]
          rfl
        rw [this]
        exact QJ.rf h
      · have : jAnd J (bkD b) = (jT J, jB J, false) := by
          unfold jAnd
          rw [b2i_0.mp w, Bool.and_false]
        rw [this]
        exact QJ.g h false
    · have hz : bkF b < (jT J).length := by omega
      have hv := jVal_get (J := J) (by omega)
      have hx2 : jVal J < 200 := h.1.2.2.1 _ (List.mem_of_getElem? hv)
      obtain ⟨T, hTT⟩ : ∃ T, (jT J).length = T + 1 := ⟨(jT J).length - 1, by omega⟩
      have e51 : σ.1 140 T = nI (jVal J) := by
        have := h.2.2.1 _ _ hv
        rwa [hTT] at this
      have hok := h.1.pop (due := ty)
      have e2 : jPop ty J = (if jVal J = 0 then ty else jVal J, ((jT J).take ((jT J).length - 1), jB J, jG J && (decide (jVal J = 0) || decide (ty = 0) || decide (jVal J = ty)))) := by
        unfold jPop
        rw [ht2]
        exact if_pos hz
      rw [e2] at hok ⊢
      have hp : mA C ((jT J).take T, jB J, jG J) (sI σ 103 53 (nI T)) := by
        obtain ⟨a1, a2, a3, a4, a5⟩ := h.2
        refine ⟨?_, fun k x hx => a2 k x (get_take hx).1, a3, a4, a5⟩
        show nI T = nI ((jT J).take T).length
        rw [List.length_take, Nat.min_eq_left (by omega)]
      rw [hTT] at hok ⊢
      rw [nI_pred, nI_clamp (n := T) (by omega), e51]
      rw [show T + 1 - 1 = T from rfl] at hok ⊢
      generalize hX : jVal J = X at *
      refine ⟨vp_in_nI (by omega) (by decide), pk_eq X 0 (fun x0 => ?_) fun x0 => pk_eq X ty (fun xd => ?_) fun xd => ?_⟩
      · have : (decide (X = 0) || decide (ty = 0) || decide (X = ty)) = true := by rw [decide_eq_true x0]; rfl
        rw [this, Bool.and_true] at hok ⊢
        exact ⟨Fr.rf.sI rfl, hok, hp⟩
      · have : (decide (X = 0) || decide (ty = 0) || decide (X = ty)) = true := by rw [decide_eq_true xd, Bool.or_true]
        rw [this, Bool.and_true] at hok ⊢
        exact ⟨Fr.rf.sI rfl, hok, hp⟩
      · have : (decide (X = 0) || decide (ty = 0) || decide (X = ty)) = false := by
          rw [decide_eq_false x0, decide_eq_false z, decide_eq_false xd]
          rfl
        rw [this, Bool.and_false] at hok ⊢
        exact ⟨(Fr.rf.sI rfl).sI rfl, hok, hp.1, hp.2.1, hp.2.2.1, hp.2.2.2.1, rfl⟩
theorem m_jdead (h : mJ C J σ) (h0 : 0 < (jB J).length) (hl : (jT J).length ≤ 4080) : Cv d 272 [.ref 103] σ (fun σ' => QJ C (jDead J) σ σ') := by
  have hB : (jB J).length ≤ 22 := h.1.2.1
  obtain ⟨L, b, hL, hb, ht⟩ := top_some h0
  obtain ⟨b1, b2, b3, b4, b5⟩ := h.2.2.2.2.1 L b hb
  have hfl : bkF b ≤ (jT J).length := (h.1.2.2.2.1 L b hb).1
  have hvL : vp_in (nI L) 22 := vp_in_nI (by omega) (by decide)
  have e : jDead J = ((jT J).take (bkF b), jSetD J b true, jG J) := by unfold jDead; rw [ht]
  refine S_M_gone ?_
  rw [h.2.2.2.1, hL, nI_pred, nI_clamp (n := L) (by omega), b2]
  refine ⟨hvL, hvL, (Fr.rf.sI rfl).sI rfl, h.1.dead, ?_⟩
  rw [e]
  obtain ⟨a1, a2, a3, a4, a5⟩ := h.2
  refine ⟨?_, fun k x hx => a2 k x (get_take hx).1, ?_, fun k c hc => ?_, a5⟩
  · show nI (bkF b) = nI ((jT J).take (bkF b)).length
    rw [List.length_take, Nat.min_eq_left hfl]
  · show σ.1 103 54 = nI (jSetD J b true).length
    rw [setD_len ht]
    exact a3
  · obtain ⟨c0, g1, g2, g3, g4, g5, g6⟩ := setD_get ht hc
    obtain ⟨d1, d2, d3, d4, d5⟩ := a4 k c0 g1
    have en : bNeed C c = bNeed C c0 := by
      unfold bNeed jLoop
      rw [g2, g4]
    refine ⟨by rw [g2]; exact d1, by rw [g3]; exact d2, by rw [g4]; exact d3, ?_, by rw [en]; exact d5⟩
    show (sI σ 145 L (1 : Int32)).1 145 k = b2i (bkD c)
    rw [sI3]
    by_cases hk : k = L
    · rw [if_pos hk, (g5 (by omega)).1]
      rfl
    · rw [if_neg hk, g6 (by omega)]
      exact d4
theorem m_jopen {o : Option Nat} {ty nd : Nat} (h : mJ C J σ) (ht : ty < 200) (ho : ∀ k, o = some k → k < 4000) (hl : (jB J).length < 22) (hn : nd = bNeed C (o, (jT J).length, ty, false)) : Cv d 270 [.ref 103, .int (pI32 C o), .int (nI ty), .int (nI nd)] σ (fun σ' => QJ C (jOpen o ty J) σ σ') := by
  have vi : vp_in (nI (jB J).length) 22 := vp_in_nI hl (by decide)
  have e : jOpen o ty J = (jT J, jB J ++ [(o, (jT J).length, ty, false)], jG J) := if_pos hl
  refine S_M_opens ?_
  rw [h.2.2.2.1, h.2.1]
  refine ⟨vi, vi, vi, vi, vi, (((((Fr.rf.sI rfl).sI rfl).sI rfl).sI rfl).sI rfl).sI rfl, h.1.opn ht ho, ?_⟩
  rw [e, nI_clamp (by omega), nI_1]
  obtain ⟨a1, a2, a3, a4, a5⟩ := h.2
  refine ⟨a1, a2, ?_, fun k b hb => ?_, a5⟩
  · show nI ((jB J).length + 1) = nI (jB J ++ [_]).length
    rw [List.length_append]
    rfl
  · show (sI σ 144 (jB J).length (pI32 C o)).1 144 k = pI32 C (bkO b) ∧ (sI σ 143 (jB J).length (nI (jT J).length)).1 143 k = nI (bkF b) ∧ (sI σ 141 (jB J).length (nI ty)).1 141 k = nI (bkG b) ∧ (sI σ 145 (jB J).length (0 : Int32)).1 145 k = b2i (bkD b) ∧ (sI σ 142 (jB J).length (nI nd)).1 142 k = nI (bNeed C b)
    rw [sI3, sI3, sI3, sI3, sI3]
    rcases get_snoc hb with ⟨y, y2⟩ | ⟨y, rfl⟩
    · rw [if_neg (by omega), if_neg (by omega), if_neg (by omega), if_neg (by omega), if_neg (by omega)]
      exact a4 k b y
    · rw [if_pos y, if_pos y, if_pos y, if_pos y, if_pos y, hn]
      exact ⟨rfl, rfl, rfl, rfl, rfl⟩
end JUDM3
