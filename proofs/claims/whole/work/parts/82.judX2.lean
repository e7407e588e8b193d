/-! THE JUDGE OF A FUNCTION: its smallest steps; the class -/
def PJ (J : JS) (σ σ' : fkS) : Prop := Fr sJg σ σ' ∧ rJ J σ'
theorem jA.g {J : JS} {σ : fkS} (h : jA J σ) (g : Bool) : jA (jT J, jB J, g) (sI σ 50 3 (b2i g)) := ⟨h.1, h.2.1, h.2.2.1, h.2.2.2.1, rfl⟩
theorem rJ.g {J : JS} {σ : fkS} (h : rJ J σ) (g : Bool) : rJ (jT J, jB J, g) (sI σ 50 3 (b2i g)) := ⟨h.1, h.2.g g⟩
theorem PJ.g {J : JS} {σ : fkS} (h : rJ J σ) (g : Bool) : PJ (jT J, jB J, g) σ (sI σ 50 3 (b2i g)) := ⟨Fr.rf.sI rfl, h.g g⟩
theorem PJ.rf {J : JS} {σ : fkS} (h : rJ J σ) : PJ J σ σ := ⟨Fr.rf, h⟩
theorem PJ.tr {J J2 : JS} {σ σ1 σ2 : fkS} (h : PJ J σ σ1) (h2 : PJ J2 σ1 σ2) : PJ J2 σ σ2 := ⟨h.1.tr h2.1, h2.2⟩
section JUDX
variable {d : Nat} {J : JS} {σ : fkS}
theorem c_jpush {ty : Nat} (h : rJ J σ) (ht : ty < 200) : Dv d 76 [.ref 50, .int (nI ty)] σ (fun σ' => PJ (jPush ty J) σ σ') := by
  have hl : (jT J).length ≤ 4100 := h.1.1
  refine S_Judge_push ?_
  rw [h.2.1]
  refine pk_le 4100 (jT J).length (fun z => ?_) (fun z => ?_)
  · have e : jPush ty J = J := if_neg (by omega)
    rw [e]
    exact ⟨rfl, PJ.rf h⟩
  · have e : jPush ty J = (jT J ++ [ty], jB J, jG J) := if_pos z
    refine ⟨vp_in_nI z (by decide), rfl, (Fr.rf.sI rfl).sI rfl, h.1.push ht, ?_⟩
    rw [e, nI_clamp (by omega), nI_1]
    obtain ⟨a1, a2, a3, a4, a5⟩ := h.2
    refine ⟨?_, fun k x hx => ?_, a3, a4, a5⟩
    · show nI ((jT J).length + 1) = nI (jT J ++ [ty]).length
      rw [List.length_append]
      rfl
    · show (sI σ 51 (jT J).length (nI ty)).1 51 k = nI x
      rw [sI3]
      rcases get_snoc hx with ⟨y, y2⟩ | ⟨y, rfl⟩
      · rw [if_neg (by omega)]
        exact a2 k x y
      · rw [if_pos y]
theorem c_jpushG {ty : Nat} (h : rJ J σ) (ht : ty < 200) : Dv (d + 1) 84 [.ref 50, .int (nI ty)] σ (fun σ' => PJ (jPushG ty J) σ σ') := by
  refine S_Judge_pushGiven (pk_eq ty 0 (fun z => ?_) (fun z => ?_))
  · have e : jPushG ty J = J := if_pos z
    rw [e]
    exact ⟨rfl, PJ.rf h⟩
  · have e : jPushG ty J = jPush ty J := if_neg z
    rw [e]
    refine (c_jpush h ht).mono fun x σ1 hx => ?_
    obtain ⟨rfl, e1, hp⟩ := Qv_s hx
    refine ⟨e1, ?_⟩
    simp only [sW_eq e1]
    exact ⟨e1, hp⟩
theorem w_jpop24 {due : Nat} {v2 : Int32} (h : rJ J σ) (hv : v2 < 0 ∧ jTop J = none ∨ ∃ L b, (jB J).length = L + 1 ∧ jTop J = some b ∧ v2 = nI L ∧ ¬ bkF b < (jT J).length) : Wq 73 d 24 [some (.ref 50), some (.int (nI due)), some (.int v2), none] [] σ (Qi fun r σ' => σ'.2.2 = σ.2.2 ∧ r = nI (jPop due J).1 ∧ PJ (jPop due J).2 σ σ') := by
  have hB : (jB J).length ≤ 22 := h.1.2.1
  have h3 : σ.1 50 3 = b2i (jG J) := h.2.2.2.2.2
  refine S_Judge_pop_24 ?_
  rcases hv with ⟨hv, hn⟩ | ⟨L, b, hL, hb, rfl, hF⟩
  · have e : jPop due J = (due, jBad J) := by
      unfold jPop
      rw [hn]
    rw [e]
    exact ⟨fun _ => ⟨rfl, rfl, PJ.g h false⟩, fun _ => ⟨fun _ => ⟨rfl, rfl, PJ.g h false⟩, fun z => absurd hv z⟩⟩
  · have e : jPop due J = (due, jAnd J (bkD b)) := by
      unfold jPop
      rw [hb]
      exact if_neg hF
    obtain ⟨L2, hL2, hb2⟩ := top_get hb
    have : L2 = L := by omega
    subst this
    have h4 := (h.2.2.2.2.1 L2 b hb2).2.2.2
    rw [e, nI_clamp (by omega), h4, h3]
    unfold jAnd
    refine ⟨fun z => ?_, fun z => ⟨fun y => absurd y (nI_pos (by omega)), fun y => ⟨vp_in_nI (by omega) (by decide), fun w => ?_, fun w => ?_⟩⟩⟩
    · rw [b2i_0.mp z]
      exact ⟨rfl, rfl, PJ.g h false⟩
    · rw [b2i_0.mp w, Bool.and_false]
      exact ⟨rfl, rfl, PJ.g h false⟩
    · have g1 : jG J = true := by
        cases hg : jG J with
        | true => rfl
        | false => exact absurd (b2i_0.mpr hg) z
      have g2 : bkD b = true := by
        cases hg : bkD b with
        | true => rfl
        | false => exact absurd (b2i_0.mpr hg) w
      rw [g1, g2]
      exact ⟨rfl, rfl, PJ.g h true⟩
theorem jVal_get (hJ : 0 < (jT J).length) : (jT J)[(jT J).length - 1]? = some (jVal J) := by
  unfold jVal
  rw [List.getElem?_eq_getElem (by omega)]
  rfl
theorem jA.pop {g : Bool} (h : jA J σ) (hg : σ.1 50 3 = b2i g) : jA ((jT J).take ((jT J).length - 1), jB J, g) (sI σ 50 5 (nI ((jT J).length - 1))) := by
  obtain ⟨a1, a2, a3, a4, a5⟩ := h
  refine ⟨?_, fun k x hx => a2 k x (get_take hx).1, a3, a4, hg⟩
  show nI ((jT J).length - 1) = nI ((jT J).take ((jT J).length - 1)).length
  rw [List.length_take, Nat.min_eq_left (by omega)]
theorem c_jpop {due : Nat} (h : rJ J σ) (hd : due < 200) : Di d 73 [.ref 50, .int (nI due)] σ (fun r σ' => r = nI (jPop due J).1 ∧ PJ (jPop due J).2 σ σ') := by
  have hB : (jB J).length ≤ 22 := h.1.2.1
  have hT : (jT J).length ≤ 4100 := h.1.1
  have h10 : σ.1 50 10 = nI (jB J).length := h.2.2.2.1
  refine S_Judge_pop ?_
  cases ht : jTop J with
  | none =>
    have h0 := top_none ht
    rw [h10, h0]
    have hm : nI 0 - (1 : Int32) < 0 := by decide
    exact ⟨fun z => w_jpop24 h (.inl ⟨hm, ht⟩), fun z => absurd hm z⟩
  | some b =>
    obtain ⟨L, hL, hb2⟩ := top_get ht
    obtain ⟨b1, b2, b3, b4⟩ := h.2.2.2.2.1 L b hb2
    have hfl : bkF b ≤ (jT J).length := (h.1.2.2.2.1 L b hb2).1
    rw [h10, hL, nI_pred, nI_clamp (by omega), b2, h.2.1]
    refine ⟨fun z => absurd z (nI_pos (by omega)), fun _ => ⟨vp_in_nI (by omega) (by decide), ?_⟩⟩
    refine pk_lt (bkF b) (jT J).length (fun z => ?_) fun z => w_jpop24 h (.inr ⟨L, b, hL, ht, rfl, by omega⟩)
    have hv := jVal_get (J := J) (by omega)
    have hx2 : jVal J < 200 := h.1.2.2.1 _ (List.mem_of_getElem? hv)
    obtain ⟨T, hTT⟩ : ∃ T, (jT J).length = T + 1 := ⟨(jT J).length - 1, by omega⟩
    have e51 : σ.1 51 T = nI (jVal J) := by
      have := h.2.2.1 _ _ hv
      rwa [hTT] at this
    have hp := h.2.pop (g := jG J) h.2.2.2.2.2
    have hok := h.1.pop (due := due)
    have e : jPop due J = (if jVal J = 0 then due else jVal J, ((jT J).take ((jT J).length - 1), jB J, jG J && (decide (jVal J = 0) || decide (due = 0) || decide (jVal J = due)))) := by
      unfold jPop
      rw [ht]
      exact if_pos z
    rw [e] at hok ⊢
    rw [hTT] at hp hok ⊢
    rw [nI_pred, nI_clamp (by omega), e51]
    rw [show T + 1 - 1 = T from rfl] at hp hok ⊢
    generalize hX : jVal J = X at *
    have f0 : ∀ r, (X = 0 ∨ due = 0 ∨ X = due) → r = (if X = 0 then due else X) → Qi (fun r σ' => σ'.2.2 = σ.2.2 ∧ r = nI (if X = 0 then due else X) ∧ PJ ((jT J).take T, jB J, jG J && (decide (X = 0) || decide (due = 0) || decide (X = due))) σ σ') (some (.int (nI r))) (sI σ 50 5 (nI T)) := fun r hc hr => by
      have : (decide (X = 0) || decide (due = 0) || decide (X = due)) = true := by
        rcases hc with y | y | y
        · rw [decide_eq_true y]; rfl
        · rw [decide_eq_true y, Bool.or_true]; rfl
        · rw [decide_eq_true y, Bool.or_true]
      rw [this, Bool.and_true] at hok ⊢
      exact ⟨rfl, congrArg nI hr, Fr.rf.sI rfl, hok, hp⟩
    have f1 : ∀ r, ¬ (X = 0 ∨ due = 0 ∨ X = due) → r = (if X = 0 then due else X) → Qi (fun r σ' => σ'.2.2 = σ.2.2 ∧ r = nI (if X = 0 then due else X) ∧ PJ ((jT J).take T, jB J, jG J && (decide (X = 0) || decide (due = 0) || decide (X = due))) σ σ') (some (.int (nI r))) (sI (sI σ 50 5 (nI T)) 50 3 (0 : Int32)) := fun r hc hr => by
      have : (decide (X = 0) || decide (due = 0) || decide (X = due)) = false := by
        rw [decide_eq_false (fun y => hc (.inl y)), decide_eq_false (fun y => hc (.inr (.inl y))), decide_eq_false (fun y => hc (.inr (.inr y)))]
        rfl
      rw [this, Bool.and_false] at hok ⊢
      exact ⟨rfl, congrArg nI hr, (Fr.rf.sI rfl).sI rfl, hok, hp.g false⟩
    refine ⟨vp_in_nI (by omega) (by decide), ?_⟩
    refine pk_eq X 0 (fun x0 => ⟨fun y => absurd (by rw [x0]; rfl) y, fun _ => f0 due (.inl x0) (if_pos x0).symm⟩) fun x0 => ?_
    have nx : ¬ nI X = 0 := nI_ne0 (by omega) (by omega)
    refine pk_eq due 0 (fun d0 => ⟨fun _ => f0 X (.inr (.inl d0)) (if_neg x0).symm, fun y => absurd y nx⟩) fun d0 => ?_
    refine pk_eq X due (fun xd => ⟨fun _ => f0 X (.inr (.inr xd)) (if_neg x0).symm, fun y => absurd y nx⟩) fun xd => ⟨fun _ => f1 X (fun y => by omega) (if_neg x0).symm, fun y => absurd y nx⟩
theorem c_jpopG {ty : Nat} (h : rJ J σ) (ht : ty < 200) : Dv (d + 1) 78 [.ref 50, .int (nI ty)] σ (fun σ' => PJ (jPopG ty J) σ σ') := by
  refine S_Judge_popGiven (pk_eq ty 0 (fun z => ?_) (fun z => ?_))
  · have e : jPopG ty J = J := if_pos z
    rw [e]
    exact ⟨rfl, PJ.rf h⟩
  · have e : jPopG ty J = (jPop ty J).2 := if_neg z
    rw [e]
    refine (c_jpop h ht).mono fun x σ1 hx => ?_
    obtain ⟨r, rfl, e1, -, hp⟩ := Qi_s hx
    refine ⟨e1, ?_⟩
    simp only [sW_eq e1]
    exact ⟨e1, hp⟩
theorem c_jopen {o : Option Nat} {ty : Nat} (h : rJ J σ) (ht : ty < 200) (ho : ∀ k, o = some k → k < 4000) : Dv d 69 [.ref 50, .int (oI o), .int (nI ty)] σ (fun σ' => PJ (jOpen o ty J) σ σ') := by
  have hB : (jB J).length ≤ 22 := h.1.2.1
  have hT : (jT J).length ≤ 4100 := h.1.1
  have h10 : σ.1 50 10 = nI (jB J).length := h.2.2.2.1
  refine S_Judge_openBlock ?_
  rw [h10, h.2.1]
  refine pk_le 22 (jB J).length (fun z => ?_) (fun z => ?_)
  · have e : jOpen o ty J = J := if_neg (by omega)
    rw [e]
    exact ⟨rfl, PJ.rf h⟩
  · have e : jOpen o ty J = (jT J, jB J ++ [(o, (jT J).length, ty, false)], jG J) := if_pos z
    have vi : vp_in (nI (jB J).length) 22 := vp_in_nI z (by decide)
    refine ⟨vi, vi, vi, vi, rfl, ((((Fr.rf.sI rfl).sI rfl).sI rfl).sI rfl).sI rfl, h.1.opn ht ho, ?_⟩
    rw [e, nI_clamp (by omega), nI_1]
    obtain ⟨a1, a2, a3, a4, a5⟩ := h.2
    refine ⟨a1, a2, ?_, fun k b hb => ?_, a5⟩
    · show nI ((jB J).length + 1) = nI (jB J ++ [_]).length
      rw [List.length_append]
      rfl
    · show (sI σ 52 (jB J).length (oI o)).1 52 k = oI (bkO b) ∧ (sI σ 53 (jB J).length (nI (jT J).length)).1 53 k = nI (bkF b) ∧ (sI σ 54 (jB J).length (nI ty)).1 54 k = nI (bkG b) ∧ (sI σ 55 (jB J).length (0 : Int32)).1 55 k = b2i (bkD b)
      rw [sI3, sI3, sI3, sI3]
      rcases get_snoc hb with ⟨y, y2⟩ | ⟨y, rfl⟩
      · rw [if_neg (by omega), if_neg (by omega), if_neg (by omega), if_neg (by omega)]
        exact a4 k b y
      · rw [if_pos y, if_pos y, if_pos y, if_pos y]
        exact ⟨rfl, rfl, rfl, rfl⟩
theorem c_jdead (h : rJ J σ) : Dv d 72 [.ref 50] σ (fun σ' => PJ (jDead J) σ σ') := by
  have hB : (jB J).length ≤ 22 := h.1.2.1
  have hT : (jT J).length ≤ 4100 := h.1.1
  have h10 : σ.1 50 10 = nI (jB J).length := h.2.2.2.1
  refine S_Judge_goDead ?_
  rw [h10]
  cases ht : jTop J with
  | none =>
    have h0 := top_none ht
    have e : jDead J = J := by unfold jDead; rw [ht]
    rw [h0, e]
    exact ⟨fun z => ⟨rfl, PJ.rf h⟩, fun z => absurd (by decide) z⟩
  | some b =>
    obtain ⟨L, hL, hb2⟩ := top_get ht
    obtain ⟨b1, b2, b3, b4⟩ := h.2.2.2.2.1 L b hb2
    have hfl : bkF b ≤ (jT J).length := (h.1.2.2.2.1 L b hb2).1
    have e : jDead J = ((jT J).take (bkF b), jSetD J b true, jG J) := by unfold jDead; rw [ht]
    rw [hL, nI_pred, nI_clamp (by omega), b2]
    refine ⟨fun z => absurd z (nI_nle (by omega) (by omega)), fun _ => ⟨vp_in_nI (by omega) (by decide), vp_in_nI (by omega) (by decide), rfl, (Fr.rf.sI rfl).sI rfl, h.1.dead, ?_⟩⟩
    rw [e]
    obtain ⟨a1, a2, a3, a4, a5⟩ := h.2
    refine ⟨?_, fun k x hx => a2 k x (get_take hx).1, ?_, fun k c hc => ?_, a5⟩
    · show nI (bkF b) = nI ((jT J).take (bkF b)).length
      rw [List.length_take, Nat.min_eq_left hfl]
    · show σ.1 50 10 = nI (jSetD J b true).length
      rw [setD_len ht]
      exact a3
    · obtain ⟨c0, g1, g2, g3, g4, g5, g6⟩ := setD_get ht hc
      obtain ⟨d1, d2, d3, d4⟩ := a4 k c0 g1
      refine ⟨by rw [g2]; exact d1, by rw [g3]; exact d2, by rw [g4]; exact d3, ?_⟩
      show (sI σ 55 L (1 : Int32)).1 55 k = b2i (bkD c)
      rw [sI3]
      by_cases hk : k = L
      · rw [if_pos hk, (g5 (by omega)).1]
        rfl
      · rw [if_neg hk, g6 (by omega)]
        exact d4
end JUDX
