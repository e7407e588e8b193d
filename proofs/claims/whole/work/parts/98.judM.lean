/-! THE VERDICT ON A MODULE: the reference, all but functions -/
def elP (m : Md) (x : El) : Bool := (decide ((mdA m).length ≠ 0) && decide (x.1 = 65)) && x.2.2.all fun y => decide (y < (mdU m).length)
theorem vEl_P {m : Md} : vEl m = (mdL m).all (elP m) := by
  unfold vEl elAll
  rw [List.all_flatMap]
  generalize mdL m = l
  induction l with
  | nil => rfl
  | cons a r ih =>
    rw [List.all_cons, List.all_cons, List.all_cons, ← ih]
    show ((decide _ && decide _ && _) && (a.2.2.all _ && _)) = ((decide _ && decide _ && a.2.2.all _) && (_ && _))
    generalize (decide ((mdA m).length ≠ 0) && decide (a.1 = 65)) = A
    generalize (a.2.2.all fun y => decide (y < (mdU m).length)) = B
    cases A <;> cases B <;> simp
section JUDM
variable {t : Nat → UInt8} {n b d : Nat} {m : Md} {σ : fkS}
theorem m_vEl (hb : b < 2) (h38 : σ.1 103 38 = nI b) (hM : MX t b m σ) (hl : lenM m) (hf : fcM t n m) : Ci d 268 [.ref 103] σ (fun r σ' => r = b2i (vEl m) ∧ σ' = σ) := by
  have l1 : (mdL m).length ≤ 60 := hl.2.2.2.2.2.2.1
  have l2 : (mdU m).length ≤ 60 := hl.2.1
  have l3 : (mdA m).length ≤ 60 := hl.2.2.1
  obtain ⟨-, hU, hA, -, -, -, hL, -⟩ := hM
  have v2 : vp_in (nI b) 2 := vp_in_nI hb (by decide)
  have cb : (nI b).toNatClampNeg = b := nI_clamp (by omega)
  refine S_M_areElements ?_
  refine allR (l := mdL m) (p := elP m) (W := fun k => Wq 268 d 2 [some (.ref 103), some (.int (nI k)), none, none] [] σ (Qi fun r σ' => r = b2i (vEl m) ∧ σ' = σ)) (Y := fun c => vEl m = c) vEl_P (fun h => ?_) fun k x hx hn hF => ?_
  · refine S_M_areElements_2 ?_
    rw [h38, cb, hL.2]
    exact ⟨v2, pk_le (mdL m).length (mdL m).length (fun _ => ⟨by rw [h]; rfl, rfl⟩) (fun z => absurd z (by omega))⟩
  · have hk := get_lt hx
    obtain ⟨f1, f2, f3⟩ := hf.2.2.2.2.2.2 x (List.mem_of_getElem? hx)
    obtain ⟨-, q1, q2, q3, q4⟩ := hL.1 k x hx
    have vk : vp_in (nI (60 * b + k)) 120 := vp_in_nI (by omega) (by decide)
    have ck : (nI (60 * b + k)).toNatClampNeg = 60 * b + k := nI_clamp (by omega)
    have no : elP m x = false → 0 = b2i (vEl m) := fun z => by
      rw [hF z]
      rfl
    have hx65 : x.1 < 2 ^ 31 := by rcases f1 with z | z | z <;> omega
    refine S_M_areElements_2 ?_
    rw [h38, cb, hL.2, hA.2, ex, ck, q1]
    refine ⟨v2, pk_le (mdL m).length k (fun z => absurd z (by omega)) (fun _ => ⟨v2, pk_eq (mdA m).length 0 (fun z => ⟨no ?_, rfl⟩) fun z => ⟨vk, pk_eq x.1 65 (fun y => ?_) fun y => ⟨no ?_, rfl⟩⟩⟩)⟩
    · unfold elP
      rw [decide_eq_false (by omega)]
      rfl
    · refine allR (l := x.2.2) (p := fun y => decide (y < (mdU m).length)) (W := fun i => Wq 268 d 52 [some (.ref 103), some (.int (nI k)), some (.int (nI (60 * b + k))), some (.int (nI i))] [] σ (Qi fun r σ' => r = b2i (vEl m) ∧ σ' = σ)) (Y := fun c => elP m x = c) ?_ (fun h => ?_) fun i w hw hn2 hF2 => ?_
      · unfold elP
        rw [decide_eq_true z, decide_eq_true y]
        rfl
      · refine S_M_areElements_52 ?_
        rw [ck, q3]
        refine ⟨vk, pk_le x.2.2.length x.2.2.length (fun _ => ?_) (fun z => absurd z (by omega))⟩
        rw [nI_1]
        exact hn h
      · have hiw := get_lt hw
        refine S_M_areElements_52 ?_
        rw [ck, q3, h38, cb, ex, hU.2, nI_clamp (n := 60 * (60 * b + k) + i) (by omega), q4 i w hw]
        refine ⟨vk, pk_le x.2.2.length i (fun z => absurd z (by omega)) (fun _ => ⟨vp_in_nI (by omega) (by decide), v2, ?_⟩)⟩
        rw [lE (f3 w (List.mem_of_getElem? hw)) (by omega), nI_1]
        exact ⟨fun y => hn2 (decide_eq_true y), fun y => ⟨no (hF2 (decide_eq_false y)), rfl⟩⟩
    · unfold elP
      rw [decide_eq_false y, Bool.and_false, Bool.false_and]
theorem li_first {l : List Li} (h : l.length = 1) : l[0]? = some (liLast l) := by
  match l, h with
  | [x], _ => rfl
theorem w_mj257 {Q : Option Value → fkS → Prop} (hb : b < 2) (h38 : σ.1 103 38 = nI b) (hM : MX t b m σ) (hl : lenM m) (hf : fcM t n m) (hn4 : n ≤ 4000) (h105 : ∀ k, k < n → σ.1 105 (4000 * b + k) = bI (t k))
    (ok : (vGl m && vEx t m && vEl m) = true → Wq 265 (d + 2) 346 [some (.ref 103), some (.int (nI 0)), none] [] σ Q) (no : (vGl m && vEx t m && vEl m) = false → Q (some (.int (-3 : Int32))) σ) :
    Wq 265 (d + 2) 257 [some (.ref 103), some (.int (nI 0)), none] [] σ Q := by
  have l5 : (mdG m).length ≤ 60 := hl.2.2.2.2.1
  have hG := hM.2.2.2.2.1
  have v2 : vp_in (nI b) 2 := vp_in_nI hb (by decide)
  have cb : (nI b).toNatClampNeg = b := nI_clamp (by omega)
  refine allR (l := mdG m) (p := fun x => decide (x.2.2.1 = gKi x.1)) (W := fun k => Wq 265 (d + 2) 257 [some (.ref 103), some (.int (nI k)), none] [] σ Q) (Y := fun c => vGl m = c) rfl (fun h => ?_) fun k x hx hn hF => ?_
  · refine S_M_judge_257 ?_
    rw [h38, cb, hG.2]
    refine ⟨v2, pk_le (mdG m).length (mdG m).length (fun _ => ?_) (fun z => absurd z (by omega))⟩
    refine (m_vEx (d := d) hb h38 hM hl hf hn4 h105).mono fun x σ1 hx => ?_
    obtain ⟨r, rfl, hr, hs⟩ := Qi_s hx
    subst hr
    rw [hs]
    refine ⟨fun z => no (by rw [b2i_0.mp z, Bool.and_false]; rfl), fun z => ?_⟩
    refine (m_vEl (d := d + 1) hb h38 hM hl hf).mono fun x σ1 hx => ?_
    obtain ⟨r, rfl, hr, hs⟩ := Qi_s hx
    subst hr
    rw [hs]
    refine ⟨fun y => ok (by rw [h, b2t z, b2t y]; rfl), fun y => no (by rw [b2i_0.mp y, Bool.and_false])⟩
  · have hk := get_lt hx
    obtain ⟨a1, a2, a3⟩ := hf.2.2.2.2.1 x (List.mem_of_getElem? hx)
    obtain ⟨q1, q2, q3, q4⟩ := hG.1 k x hx
    have vk : vp_in (nI (60 * b + k)) 120 := vp_in_nI (by omega) (by decide)
    have ck : (nI (60 * b + k)).toNatClampNeg = 60 * b + k := nI_clamp (by omega)
    have a31 : x.2.2.1 < 2 ^ 31 := by rcases a3 with z | z | z <;> omega
    have a11 : x.1 < 2 ^ 31 := by rcases a1 with z | z <;> omega
    have bad : x.2.2.1 ≠ gKi x.1 → Q (some (.int (-3 : Int32))) σ := fun z => no (by rw [hF (decide_eq_false z)]; rfl)
    have good : x.2.2.1 = gKi x.1 → Wq 265 (d + 2) 257 [some (.ref 103), some (.int (nI k + 1)), none] [] σ Q := fun z => by
      rw [nI_1]
      exact hn (decide_eq_true z)
    refine S_M_judge_257 ?_
    rw [h38, cb, hG.2, ex, ck, q1, q3]
    refine ⟨v2, pk_le (mdG m).length k (fun z => absurd z (by omega)) (fun _ => ⟨vk, pk_eq x.2.2.1 35 (fun z => bad ?_) fun z => ⟨vk, vk, And.comm.mp (pk_eq x.2.2.1 65 (fun y => pk_eq x.1 127 (fun w => good ?_) fun w => bad ?_) fun y => pk_eq x.1 126 (fun w => good ?_) fun w => bad ?_)⟩⟩)⟩
    · unfold gKi
      split <;> omega
    · unfold gKi
      rw [if_pos w]
      exact y
    · unfold gKi
      rw [if_neg w]
      omega
    · unfold gKi
      rw [if_neg (by omega)]
      rcases a3 with z3 | z3 | z3
      · exact absurd z3 y
      · exact z3
      · exact absurd z3 z
    · unfold gKi
      rcases a1 with z1 | z1
      · rw [if_pos z1]
        exact y
      · exact absurd z1 w
end JUDM
