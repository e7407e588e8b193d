/-! THE JUDGE OF A FUNCTION: a 5, a call; the reference -/
theorem jArgs_T {t : Nat → UInt8} {x : Ty} : ∀ (k : Nat) {J : JS}, (jT (jArgs t x k J)).length ≤ (jT J).length
  | 0, _ => Nat.le_refl _
  | k + 1, _ => Nat.le_trans (jArgs_T k) jPop_T
theorem rTM.fr {t : Nat → UInt8} {X : Nat} {x : Ty} {S : Nat → Nat → Bool} {σ σ' : fkS} (h : rTM t X x σ) (f : Fr S σ σ') (h0 : ∀ c j, 107 ≤ c → c ≤ 109 → S c j = false) : rTM t X x σ' := ⟨(f _ _ (h0 107 X (by decide) (by decide))).1.trans h.1, fun j hj => (f _ _ (h0 108 _ (by decide) (by decide))).1.trans (h.2.1 j hj), (f _ _ (h0 109 X (by decide) (by decide))).1.trans h.2.2⟩
theorem sMg_lt {c j : Nat} (h : c < 103) : sMg c j = false := by
  unfold sMg
  rw [beq_ne (show c ≠ 103 by omega), beq_ne (show c ≠ 140 by omega), beq_ne (show c ≠ 141 by omega), beq_ne (show c ≠ 142 by omega), beq_ne (show c ≠ 143 by omega), beq_ne (show c ≠ 144 by omega), beq_ne (show c ≠ 145 by omega)]
  rfl
theorem sMg_mid {c j : Nat} (h : 103 < c) (h2 : c < 140) : sMg c j = false := by
  unfold sMg
  rw [beq_ne (show c ≠ 103 by omega), beq_ne (show c ≠ 140 by omega), beq_ne (show c ≠ 141 by omega), beq_ne (show c ≠ 142 by omega), beq_ne (show c ≠ 143 by omega), beq_ne (show c ≠ 144 by omega), beq_ne (show c ≠ 145 by omega)]
  rfl
section JUDM6
variable {t : Nat → UInt8} {n d : Nat} {C : List In} {J : JS} {σ : fkS}
theorem w_calls9 {X : Nat} {x : Ty} {σ0 : fkS} (hX : X < 120) (hx : fT t n x) (hr0 : rTM t X x σ0) (hl : (jT J).length ≤ 4000) :
    ∀ (r : Nat) (K : JS) (σ : fkS), r ≤ x.2.1 → jArgs t x r K = jArgs t x x.2.1 J → (jT K).length ≤ 4000 → 0 < (jB K).length → mJ C K σ → Fr sMg σ0 σ →
    Wq 282 (d + 2) 9 [some (.ref 103), some (.int (nI X)), some (.int (nI r - 1))] [] σ (Qv fun σ' => QJ C (jPushG x.2.2 (jArgs t x x.2.1 J)) σ0 σ')
  | 0, K, σ, hr, hK, hKl, hK0, h, f0 => by
    have hrt := hr0.fr f0 fun c j a b => sMg_mid (by omega) (by omega)
    have hg := hx.2.2.2
    have vX : vp_in (nI X) 120 := vp_in_nI hX (by decide)
    have hK : K = jArgs t x x.2.1 J := hK
    refine S_M_calls_9 ⟨fun _ => ⟨vX, ?_⟩, fun z => absurd (by decide) z⟩
    rw [nI_clamp (n := X) (by omega), hrt.2.2, ← hK]
    have hg2 : x.2.2 < 200 := isT0.lt hg
    refine pk_eq x.2.2 0 (fun z => ?_) fun z => ⟨vX, ?_⟩
    · have e : jPushG x.2.2 K = K := if_pos z
      rw [e]
      exact ⟨f0, h⟩
    · have e : jPushG x.2.2 K = jPush x.2.2 K := if_neg z
      rw [e]
      refine (m_jpush h hg2 (by omega)).mono fun v σ1 hx1 => ?_
      obtain ⟨rfl, f1, h1⟩ := Qv_s hx1
      exact ⟨f0.tr f1, h1⟩
  | r + 1, K, σ, hr, hK, hKl, hK0, h, f0 => by
    have hrt := hr0.fr f0 fun c j a b => sMg_mid (by omega) (by omega)
    have h60 := hx.1
    have hta := hx.2.1 r (by omega)
    have e60 : (60 : Int32) * nI X + nI r = nI (60 * X + r) := ex
    rw [nI_pred]
    refine S_M_calls_9 ⟨fun z => absurd z (nI_pos (by omega)), fun _ => ?_⟩
    rw [e60, nI_clamp (n := 60 * X + r) (by omega), hrt.2.1 r (by omega)]
    refine ⟨vp_in_nI (by omega) (by decide), (m_jpopG h hta.lt (by omega) hK0).mono fun v σ1 hx1 => ?_⟩
    obtain ⟨rfl, f1, h1⟩ := Qv_s hx1
    have ne : ¬ (t (x.1 + r)).toNat = 0 := by rcases hta with z | z <;> omega
    have e2 : jPopG (t (x.1 + r)).toNat K = (jPop (t (x.1 + r)).toNat K).2 := if_neg ne
    rw [e2] at h1
    show Wq 282 (d + 2) 9 _ _ σ1 _
    rw [show nI r + (-1 : Int32) = nI r - 1 from (Int32.sub_eq_add_neg (nI r) 1).symm]
    have hK2 : jArgs t x r (jPop (t (x.1 + r)).toNat K).2 = jArgs t x x.2.1 J := hK
    exact w_calls9 hX hx hr0 hl r (jPop (t (x.1 + r)).toNat K).2 σ1 (by omega) hK2 (Nat.le_trans jPop_T hKl) (by rw [jPop_B]; exact hK0) h1 (f0.tr f1)
theorem m_calls {X : Nat} {x : Ty} (hX : X < 120) (hx : fT t n x) (hr : rTM t X x σ) (hl : (jT J).length ≤ 4000) (h0 : 0 < (jB J).length) (h : mJ C J σ) : Cv (d + 2) 282 [.ref 103, .int (nI X)] σ (fun σ' => QJ C (jPushG x.2.2 (jArgs t x x.2.1 J)) σ σ') := by
  refine S_M_calls ⟨vp_in_nI hX (by decide), ?_⟩
  rw [nI_clamp (n := X) (by omega), hr.1]
  exact w_calls9 hX hx hr hl x.2.1 J σ (Nat.le_refl _) rfl hl h0 h Fr.rf
theorem m_else (h : mJ C J σ) (hl : (jT J).length ≤ 4000) (h0 : 0 < (jB J).length) : Cv (d + 2) 275 [.ref 103] σ (fun σ6 => vp_in ((σ6.1 103 54) - (1 : Int32)) 22 ∧ (Fr sMg σ (sI σ6 145 (((σ6.1 103 54) - (1 : Int32)).toNatClampNeg) (0 : Int32)) ∧ MGd C (jElse J) (sI σ6 145 (((σ6.1 103 54) - (1 : Int32)).toNatClampNeg) (0 : Int32)))) := by
  have hB : (jB J).length ≤ 22 := h.1.2.1
  obtain ⟨L, b, hL, hb, ht⟩ := top_some h0
  refine (m_closes h (by omega) h0).mono fun x σ1 hx => ?_
  obtain ⟨rfl, f1, h1⟩ := Qv_s hx
  have hRB : jB (rPart J) = jB J := rPart_B
  have hdp : σ1.1 103 54 = nI (L + 1) := by rw [h1.2.2.2.1, hRB, hL]
  show _ ∧ _
  rw [hdp, nI_pred, nI_clamp (n := L) (by omega)]
  have htR : jTop (rPart J) = some b := (jTop_B hRB).trans ht
  have htP : jTop (jPart J) = some b := (jTop_B jPart_B).trans ht
  have eE : jElse J = (jT (jPart J), jSetD (jPart J) b false, jG (jPart J)) := by unfold jElse; rw [htP]
  have eS : jSetD (rPart J) b false = jSetD (jPart J) b false := by
    unfold jSetD
    rw [hRB, jPart_B]
  refine ⟨vp_in_nI (by omega) (by decide), f1.sI rfl, (jT (rPart J), jSetD (rPart J) b false, jG (rPart J)), ⟨?_, ?_⟩, ?_, fun y => ?_⟩
  · obtain ⟨k1, k2, k3, k4, k5⟩ := h1.1
    refine ⟨k1, ?_, k3, fun k c hc => ?_, fun i j bi bj hij hi hj => ?_⟩
    · show (jSetD (rPart J) b false).length ≤ 22
      rw [setD_len htR]
      exact k2
    · obtain ⟨c0, a1, a2, a3, a4, -⟩ := setD_get htR hc
      rw [a2, a3, a4]
      exact k4 k c0 a1
    · obtain ⟨c0, a1, a2, a3, a4, -⟩ := setD_get htR hi
      obtain ⟨d0, q1, q2, q3, q4, -⟩ := setD_get htR hj
      rw [a3, q3]
      exact k5 i j c0 d0 hij a1 q1
  · obtain ⟨a1, a2, a3, a4, a5⟩ := h1.2
    refine ⟨a1, a2, ?_, fun k c hc => ?_, a5⟩
    · show σ1.1 103 54 = nI (jSetD (rPart J) b false).length
      rw [setD_len htR]
      exact a3
    · obtain ⟨c0, g1, g2, g3, g4, g5, g6⟩ := setD_get htR hc
      obtain ⟨d1, d2, d3, d4, d5⟩ := a4 k c0 g1
      have en : bNeed C c = bNeed C c0 := by
        unfold bNeed jLoop
        rw [g2, g4]
      refine ⟨by rw [g2]; exact d1, by rw [g3]; exact d2, by rw [g4]; exact d3, ?_, by rw [en]; exact d5⟩
      show (sI σ1 145 L (0 : Int32)).1 145 k = b2i (bkD c)
      rw [sI3]
      by_cases hk : k = L
      · rw [if_pos hk, (g5 (by rw [hRB]; omega)).1]
        rfl
      · rw [if_neg hk, g6 (by rw [hRB]; omega)]
        exact d4
  · rw [eE]
    exact rPart_g
  · rw [eE] at y
    have y : jG (jPart J) = true := y
    have eq := rPart_eq (rPart_g.trans y)
    rw [eE, eq]
    exact ⟨rfl, fun _ => rfl⟩
end JUDM6
