/-! THE JUDGE OF A FUNCTION: the end of a part, of a block; the reference -/
def rPart (J : JS) : JS := match jTop J with
  | none => J
  | some b => ((jT (jPopG (bkG b) J)).take (bkF b), jB J, jG (jPopG (bkG b) J) && decide ((jT (jPopG (bkG b) J)).length = bkF b))
theorem rPart_g {J : JS} : jG (rPart J) = jG (jPart J) := by
  unfold rPart jPart
  cases jTop J <;> rfl
theorem rPart_eq {J : JS} (h : jG (rPart J) = true) : rPart J = jPart J := by
  unfold rPart jPart at *
  cases hb : jTop J with
  | none => rfl
  | some b =>
    rw [hb] at h
    have h2 : (jG (jPopG (bkG b) J) && decide ((jT (jPopG (bkG b) J)).length = bkF b)) = true := h
    rw [Bool.and_eq_true, decide_eq_true_eq] at h2
    show ((jT (jPopG (bkG b) J)).take (bkF b), jB J, _) = (jT (jPopG (bkG b) J), jB (jPopG (bkG b) J), _)
    rw [jPopG_B, List.take_of_length_le (Nat.le_of_eq h2.2)]
theorem rPart_B {J : JS} : jB (rPart J) = jB J := by
  unfold rPart
  split <;> rfl
theorem jPop_T {due : Nat} {J : JS} : (jT (jPop due J).2).length ≤ (jT J).length := by
  unfold jPop
  split
  · exact Nat.le_refl _
  · split
    · show ((jT J).take _).length ≤ _
      rw [List.length_take]
      omega
    · exact Nat.le_refl _
theorem jPopG_T {ty : Nat} {J : JS} : (jT (jPopG ty J)).length ≤ (jT J).length := by
  unfold jPopG
  split
  · exact Nat.le_refl _
  · exact jPop_T
theorem jok.rpart {J : JS} (h : jok J) : jok (rPart J) := by
  unfold rPart
  split
  · exact h
  next b hb =>
    obtain ⟨L, hL, hb2⟩ := top_get hb
    have hp := h.popG (due := bkG b)
    obtain ⟨h1, h2, h3, h4, h5⟩ := hp
    rw [jPopG_B] at h2 h4 h5
    have hf := (h4 L b hb2).1
    refine ⟨?_, h2, fun x hx => h3 x (List.mem_of_mem_take hx), fun k c hc => ⟨?_, (h4 k c hc).2⟩, h5⟩
    · show ((jT (jPopG (bkG b) J)).take (bkF b)).length ≤ 4100
      rw [List.length_take]
      omega
    · show bkF c ≤ ((jT (jPopG (bkG b) J)).take (bkF b)).length
      have hk := get_lt hc
      have : k < (jB J).length := hk
      have := h5 k L c b (by omega) hc hb2
      rw [List.length_take]
      omega
section JUDM4
variable {d : Nat} {C : List In} {J : JS} {σ : fkS}
theorem m_closes (h : mJ C J σ) (hl : (jT J).length ≤ 4080) (h0 : 0 < (jB J).length) : Cv (d + 2) 275 [.ref 103] σ (fun σ' => QJ C (rPart J) σ σ') := by
  have hB : (jB J).length ≤ 22 := h.1.2.1
  obtain ⟨L, b, hL, hb, ht⟩ := top_some h0
  obtain ⟨b1, b2, b3, b4, b5⟩ := h.2.2.2.2.1 L b hb
  have hg : bkG b < 200 := (h.1.2.2.2.1 L b hb).2.1
  have hvL : vp_in (nI L) 22 := vp_in_nI (by omega) (by decide)
  have e : rPart J = ((jT (jPopG (bkG b) J)).take (bkF b), jB J, jG (jPopG (bkG b) J) && decide ((jT (jPopG (bkG b) J)).length = bkF b)) := by unfold rPart; rw [ht]
  have hok := h.1.rpart
  refine S_M_closes ?_
  rw [h.2.2.2.1, hL, nI_pred, nI_clamp (n := L) (by omega), b3]
  refine ⟨hvL, (m_jpopG h hg hl h0).mono fun x σ1 hx => ?_⟩
  obtain ⟨rfl, f1, h1⟩ := Qv_s hx
  have hT1 := jPopG_T (ty := bkG b) (J := J)
  have hb' : (jB (jPopG (bkG b) J))[L]? = some b := by rw [jPopG_B]; exact hb
  obtain ⟨c1, c2, c3, c4, c5⟩ := h1.2.2.2.2.1 L b hb'
  have hfl := (h1.1.2.2.2.1 L b hb').1
  have hdp : σ1.1 103 54 = nI (L + 1) := by rw [h1.2.2.2.1, jPopG_B, hL]
  show _ ∧ _
  rw [hdp, nI_pred, nI_clamp (n := L) (by omega), c2, h1.2.1]
  rw [e] at hok ⊢
  have hA : ∀ g σ2, σ2 = sI σ1 103 53 (nI (bkF b)) → σ1.1 103 57 = b2i g → mA C ((jT (jPopG (bkG b) J)).take (bkF b), jB J, g) σ2 := fun g σ2 hs hgg => by
    subst hs
    obtain ⟨a1, a2, a3, a4, a5⟩ := h1.2
    refine ⟨?_, fun k x hx => a2 k x (get_take hx).1, a3.trans (by rw [jPopG_B]; rfl), fun k c hc => a4 k c (by rw [jPopG_B]; exact hc), hgg⟩
    show nI (bkF b) = nI ((jT (jPopG (bkG b) J)).take (bkF b)).length
    rw [List.length_take, Nat.min_eq_left hfl]
  refine ⟨hvL, pk_eq (jT (jPopG (bkG b) J)).length (bkF b) (fun z => ⟨hvL, ?_⟩) fun z => ⟨hvL, ?_⟩⟩
  · rw [decide_eq_true z, Bool.and_true] at hok ⊢
    exact ⟨f1.sI rfl, hok, hA _ _ rfl h1.2.2.2.2.2⟩
  · rw [decide_eq_false z, Bool.and_false] at hok ⊢
    refine ⟨(f1.sI rfl).sI rfl, hok, ?_⟩
    obtain ⟨a1, a2, a3, a4, a5⟩ := h1.2
    refine ⟨?_, fun k x hx => a2 k x (get_take hx).1, a3.trans (by rw [jPopG_B]; rfl), fun k c hc => a4 k c (by rw [jPopG_B]; exact hc), rfl⟩
    show nI (bkF b) = nI ((jT (jPopG (bkG b) J)).take (bkF b)).length
    rw [List.length_take, Nat.min_eq_left hfl]
end JUDM4
