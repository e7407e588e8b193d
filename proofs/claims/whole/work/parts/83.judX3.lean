/-! THE JUDGE OF A FUNCTION: the end of a part, of a block; the class -/
def jBlk (bad : Bool) (J : JS) : JS := match jTop J with
  | none => J
  | some b => jPushG (bkG b) (jT (jPart J), (jB J).take ((jB J).length - 1), jG (jPart J) && !(bad && decide (bkG b ≠ 0)))
theorem jPop_B {due : Nat} {J : JS} : jB (jPop due J).2 = jB J := by
  unfold jPop
  split
  · rfl
  · split
    · rfl
    · rfl
theorem jPopG_B {ty : Nat} {J : JS} : jB (jPopG ty J) = jB J := by
  unfold jPopG
  split
  · rfl
  · exact jPop_B
theorem jPart_B {J : JS} : jB (jPart J) = jB J := by
  unfold jPart
  split
  · rfl
  · exact jPopG_B
theorem jok.take {J : JS} {g : Bool} (h : jok J) : jok (jT J, (jB J).take ((jB J).length - 1), g) := by
  obtain ⟨h1, h2, h3, h4, h5⟩ := h
  refine ⟨h1, ?_, h3, fun k b hb => h4 k b (get_take hb).1, fun i j bi bj hij hi hj => h5 i j bi bj hij (get_take hi).1 (get_take hj).1⟩
  show ((jB J).take ((jB J).length - 1)).length ≤ 22
  rw [List.length_take]
  omega
theorem jok.blk {J : JS} {bad : Bool} (h : jok J) : jok (jBlk bad J) := by
  unfold jBlk
  split
  · exact h
  next b hb =>
    obtain ⟨L, hL, hb2⟩ := top_get hb
    refine jok.pushG ?_ (h.2.2.2.1 L b hb2).2.1
    have := h.part.take (g := jG (jPart J) && !(bad && decide (bkG b ≠ 0)))
    rwa [jPart_B] at this
section JUDX3
variable {d : Nat} {J : JS} {σ : fkS}
theorem w_jpart38 {b : Bk} (h : rJ J σ) (hb : jTop J = some b) : Wq 74 (d + 1) 38 [some (.ref 50)] [] σ (Qv fun σ' => σ'.2.2 = σ.2.2 ∧ PJ (jAnd J (decide ((jT J).length = bkF b))) σ σ') := by
  have hB : (jB J).length ≤ 22 := h.1.2.1
  have hT : (jT J).length ≤ 4100 := h.1.1
  have h10 : σ.1 50 10 = nI (jB J).length := h.2.2.2.1
  have h3 : σ.1 50 3 = b2i (jG J) := h.2.2.2.2.2
  obtain ⟨L, hL, hb2⟩ := top_get hb
  obtain ⟨b1, b2, b3, b4⟩ := h.2.2.2.2.1 L b hb2
  have hfl : bkF b ≤ (jT J).length := (h.1.2.2.2.1 L b hb2).1
  refine S_Judge_closePart_38 ?_
  rw [h10, hL, nI_pred, nI_clamp (by omega), b2, h3, h.2.1]
  unfold jAnd
  refine ⟨fun z => ?_, fun z => ⟨vp_in_nI (by omega) (by decide), And.comm.mp (pk_eq (jT J).length (bkF b) (fun y => ?_) fun y => ?_)⟩⟩
  · rw [b2i_0.mp z]
    exact ⟨rfl, PJ.g h false⟩
  · have g1 : jG J = true := by
      cases hg : jG J with
      | true => rfl
      | false => exact absurd (b2i_0.mpr hg) z
    rw [g1, decide_eq_true y]
    exact ⟨rfl, PJ.g h true⟩
  · rw [decide_eq_false y, Bool.and_false]
    exact ⟨rfl, PJ.g h false⟩
theorem jTop_B {J K : JS} (h : jB K = jB J) : jTop K = jTop J := by
  unfold jTop
  rw [h]
theorem c_jpart (h : rJ J σ) : Dv (d + 1) 74 [.ref 50] σ (fun σ' => PJ (jPart J) σ σ') := by
  have hB : (jB J).length ≤ 22 := h.1.2.1
  have h10 : σ.1 50 10 = nI (jB J).length := h.2.2.2.1
  refine S_Judge_closePart ?_
  rw [h10]
  cases ht : jTop J with
  | none =>
    have h0 := top_none ht
    have e : jPart J = J := by unfold jPart; rw [ht]
    rw [h0, e]
    exact ⟨fun z => absurd rfl z, fun _ => ⟨rfl, PJ.rf h⟩⟩
  | some b =>
    obtain ⟨L, hL, hb2⟩ := top_get ht
    obtain ⟨b1, b2, b3, b4⟩ := h.2.2.2.2.1 L b hb2
    have hg : bkG b < 200 := (h.1.2.2.2.1 L b hb2).2.1
    have e : jPart J = jAnd (jPopG (bkG b) J) (decide ((jT (jPopG (bkG b) J)).length = bkF b)) := by unfold jPart; rw [ht]
    rw [hL, nI_pred, nI_clamp (by omega), b3, e]
    refine ⟨fun _ => ⟨vp_in_nI (by omega) (by decide), pk_eq (bkG b) 0 (fun z => ?_) fun z => ⟨vp_in_nI (by omega) (by decide), ?_⟩⟩, fun z => absurd z (nI_ne0 (by omega) (by omega))⟩
    · have e2 : jPopG (bkG b) J = J := if_pos z
      rw [e2]
      exact w_jpart38 h ht
    · have e2 : jPopG (bkG b) J = (jPop (bkG b) J).2 := if_neg z
      rw [e2]
      refine (c_jpop h hg).mono fun x σ1 hx => ?_
      obtain ⟨r, rfl, e1, -, hp⟩ := Qi_s hx
      refine ⟨e1, ?_⟩
      simp only [sW_eq e1]
      refine (w_jpart38 hp.2 ((jTop_B jPop_B).trans ht)).mono fun x σ2 hx => ?_
      obtain ⟨rfl, e3, hp3⟩ := Qv_s hx
      exact ⟨e3.trans e1, hp.tr hp3⟩
theorem rJ.cut {g : Bool} (h : rJ J σ) (hg : σ.1 50 3 = b2i g) {L : Nat} (hL : (jB J).length = L + 1) : rJ (jT J, (jB J).take ((jB J).length - 1), g) (sI σ 50 10 (nI L)) := by
  obtain ⟨a1, a2, a3, a4, a5⟩ := h.2
  refine ⟨h.1.take, a1, a2, ?_, fun k b hb => a4 k b (get_take hb).1, hg⟩
  show nI L = nI ((jB J).take ((jB J).length - 1)).length
  rw [List.length_take, Nat.min_eq_left (by omega), hL]
  rfl
theorem w_leaf {K : JS} {g : Nat} {τ : fkS} (hg : g < 200) (e : τ.2.2 = σ.2.2) (f : Fr sJg σ τ) (h : rJ K τ) :
    (nI g = 0 → Qv (fun σ' => σ'.2.2 = σ.2.2 ∧ PJ (jPushG g K) σ σ') none τ) ∧ (¬ nI g = 0 → Dv d 76 [.ref 50, .int (nI g)] τ (fun σ2 => Qv (fun σ' => σ'.2.2 = σ.2.2 ∧ PJ (jPushG g K) σ σ') none (sW σ2 σ))) := by
  refine pk_eq g 0 (fun z => ?_) fun z => ?_
  · have e2 : jPushG g K = K := if_pos z
    rw [e2]
    exact ⟨e, f, h⟩
  · have e2 : jPushG g K = jPush g K := if_neg z
    rw [e2]
    refine (c_jpush h hg).mono fun x σ1 hx => ?_
    obtain ⟨rfl, e1, hp⟩ := Qv_s hx
    refine ⟨e1, ?_⟩
    simp only [sW_eq (e1.trans e)]
    exact ⟨e1.trans e, f.tr hp.1, hp.2⟩
theorem c_jblk {bad : Bool} (h : rJ J σ) (h50 : σ.2.2 50 1 = 37) (hn : ∀ b, jTop J = some b → bkO b = none → bad = false)
    (hs : ∀ b o, jTop J = some b → bkO b = some o → ∃ v, v < 256 ∧ σ.1 41 o = nI v ∧ (v = 4 → ∃ s v2, s < 4000 ∧ v2 < 256 ∧ σ.1 43 o = nI s ∧ σ.1 41 s = nI v2 ∧ (bad = true ↔ v2 = 11)) ∧ (v ≠ 4 → bad = false)) : Dv (d + 2) 75 [.ref 50] σ (fun σ' => PJ (jBlk bad J) σ σ') := by
  have hB : (jB J).length ≤ 22 := h.1.2.1
  refine S_Judge_closeBlock h50 ((c_jpart h).mono fun x σ1 hx => ?_)
  obtain ⟨rfl, e1, hp⟩ := Qv_s hx
  refine ⟨e1, ?_⟩
  simp only [sW_eq e1]
  obtain ⟨hp1, hp2⟩ := hp
  have h10 : σ1.1 50 10 = nI (jB J).length := by
    rw [hp2.2.2.2.1, jPart_B]
  rw [h10]
  cases ht : jTop J with
  | none =>
    have h0 := top_none ht
    have e : jBlk bad J = jPart J := by unfold jBlk jPart; rw [ht]
    rw [h0, e]
    exact ⟨fun z => absurd rfl z, fun _ => ⟨e1, hp1, hp2⟩⟩
  | some b =>
    obtain ⟨L, hL, hb2⟩ := top_get ht
    obtain ⟨b1, b2, b3, b4⟩ := hp2.2.2.2.2.1 L b (by rw [jPart_B]; exact hb2)
    have hg : bkG b < 200 := (h.1.2.2.2.1 L b hb2).2.1
    have e : jBlk bad J = jPushG (bkG b) (jT (jPart J), (jB J).take ((jB J).length - 1), jG (jPart J) && !(bad && decide (bkG b ≠ 0))) := by unfold jBlk; rw [ht]
    have c41 : ∀ k, σ1.1 41 k = σ.1 41 k := fun k => (hp1 41 k rfl).1
    have c43 : ∀ k, σ1.1 43 k = σ.1 43 k := fun k => (hp1 43 k rfl).1
    have hL2 : (jB (jPart J)).length = L + 1 := by rw [jPart_B]; exact hL
    have vL : vp_in (nI L) 22 := vp_in_nI (by omega) (by decide)
    have good : (bad && decide (bkG b ≠ 0)) = false → (nI (bkG b) = 0 → Qv (fun σ' => σ'.2.2 = σ.2.2 ∧ PJ (jBlk bad J) σ σ') none (sI σ1 50 10 (nI L))) ∧ (¬ nI (bkG b) = 0 → Dv (d + 1) 76 [.ref 50, .int (nI (bkG b))] (sI σ1 50 10 (nI L)) (fun σ2 => Qv (fun σ' => σ'.2.2 = σ.2.2 ∧ PJ (jBlk bad J) σ σ') none (sW σ2 σ))) := fun z => by
      rw [e, z]
      refine w_leaf (τ := sI σ1 50 10 (nI L)) hg e1 (hp1.sI rfl) ?_
      have := hp2.cut (g := jG (jPart J) && !false) (by rw [Bool.not_false, Bool.and_true]; exact hp2.2.2.2.2.2) hL2
      rwa [jPart_B] at this
    have notg : bad = true → bkG b ≠ 0 → (nI (bkG b) = 0 → Qv (fun σ' => σ'.2.2 = σ.2.2 ∧ PJ (jBlk bad J) σ σ') none (sI (sI σ1 50 3 (0 : Int32)) 50 10 (nI L))) ∧ (¬ nI (bkG b) = 0 → Dv (d + 1) 76 [.ref 50, .int (nI (bkG b))] (sI (sI σ1 50 3 (0 : Int32)) 50 10 (nI L)) (fun σ2 => Qv (fun σ' => σ'.2.2 = σ.2.2 ∧ PJ (jBlk bad J) σ σ') none (sW σ2 σ))) := fun z y => by
      rw [e, z, decide_eq_true y]
      refine w_leaf (τ := sI (sI σ1 50 3 (0 : Int32)) 50 10 (nI L)) hg e1 ((hp1.sI rfl).sI rfl) ?_
      have := (hp2.g false).cut (g := jG (jPart J) && !(true && true)) (by rw [show (!(true && true)) = false from rfl, Bool.and_false]; rfl) hL2
      rw [show jB (jT (jPart J), jB (jPart J), false) = jB J from jPart_B] at this
      exact this
    rw [hL, nI_pred, nI_clamp (by omega), b1, b3]
    refine ⟨fun _ => ⟨vL, vL, ?_⟩, fun z => absurd z (nI_ne0 (by omega) (by omega))⟩
    cases ho : bkO b with
    | none =>
      have hbad := hn b ht ho
      exact ⟨fun _ => good (by rw [hbad]; rfl), fun z => absurd (by decide) z⟩
    | some o =>
      have ho4 : o < 4000 := (h.1.2.2.2.1 L b hb2).2.2 o ho
      obtain ⟨v, hv, hv41, hv4, hvn⟩ := hs b o ht ho
      show (nI o < 0 → _) ∧ (¬ nI o < 0 → _)
      have vo : vp_in (oI (some o)) 4000 := vp_in_nI ho4 (by decide)
      have co : (oI (some o)).toNatClampNeg = o := nI_clamp (by omega)
      rw [co, c41, c43, hv41]
      refine ⟨fun z => absurd z (nI_pos (by omega)), fun _ => ⟨by decide, vo, And.comm.mp (pk_eq v 4 (fun z => ?_) fun z => good (by rw [hvn z]; rfl))⟩⟩
      obtain ⟨s, v2, hs4, hv2, hs43, hs41, hiff⟩ := hv4 z
      rw [hs43, nI_clamp (by omega), c41, hs41]
      refine ⟨by decide, by decide, vo, vp_in_nI hs4 (by decide), And.comm.mp (pk_eq v2 11 (fun y => ?_) fun y => good ?_)⟩
      · have hbt := hiff.mpr y
        refine pk_eq (bkG b) 0 (fun w => good (by rw [decide_eq_false (by omega), Bool.and_false])) fun w => notg hbt w
      · have : bad = false := by
          cases hbb : bad with
          | false => rfl
          | true => exact absurd (hiff.mp hbb) y
        rw [this]
        rfl
end JUDX3
