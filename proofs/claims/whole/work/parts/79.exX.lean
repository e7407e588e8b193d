/-! THE VERDICT: exports and elements; the class -/
theorem i8_eq {a b : UInt8} : a.toInt8.toInt32 = b.toInt8.toInt32 ↔ a = b := by
  refine ⟨fun h => ?_, fun h => by rw [h]⟩
  have h1 : bI a = bI b := by rw [← bI_X, h, bI_X]
  have := (nI_eq (a := a.toNat) (b := b.toNat) (by have := a.toNat_lt; omega) (by have := b.toNat_lt; omega)).mp h1
  exact UInt8.toNat_inj.mp this
theorem bI_eq {a b : UInt8} : bI a = bI b ↔ a = b := by
  refine ⟨fun h => ?_, fun h => by rw [h]⟩
  have := (nI_eq (a := a.toNat) (b := b.toNat) (by have := a.toNat_lt; omega) (by have := b.toNat_lt; omega)).mp h
  exact UInt8.toNat_inj.mp this
theorem exAt_f {t : Nat → UInt8} {n : Nat} {m : Md} {k : Nat} (hf : fcM t n m) (hk : k < (mdE m).length) : (mdE m)[k]? = some (exAt m k) ∧ fE n (exAt m k) := by
  have h1 : (mdE m)[k]? = some (mdE m)[k] := List.getElem?_eq_getElem hk
  have h2 : exAt m k = (mdE m)[k] := by unfold exAt; rw [h1]; rfl
  rw [h2]
  exact ⟨h1, hf.2.2.2.2.2.1 _ (List.getElem_mem hk)⟩
theorem thN_le {m : Md} {k : Nat} (hl : lenM m) : thN m k ≤ 60 := by
  obtain ⟨l1, l2, l3, l4, l5, -⟩ := hl
  unfold thN
  split
  · exact l2
  split
  · exact l3
  split
  · exact l4
  · exact l5
section EXX
variable {t : Nat → UInt8} {n d : Nat} {m : Md} {σ : fkS}
theorem c_sameN {i j : Nat} (hD : DX m σ) (hl : lenM m) (hf : fcM t n m) (hn4 : n ≤ 4000) (h50 : σ.2.2 50 0 = 25) (h25 : ∀ k, k < n → σ.1 25 k = (t k).toInt8.toInt32) (hi : i < (mdE m).length) (hj : j < (mdE m).length) : Di d 65 [.ref 50, .int (nI i), .int (nI j)] σ (fun r σ' => r = b2i (sameN t (exAt m i) (exAt m j)) ∧ σ' = σ) := by
  obtain ⟨-, -, -, -, -, ⟨hE1, hE2⟩, -⟩ := hD
  have l1 : (mdE m).length ≤ 60 := hl.2.2.2.2.2.1
  obtain ⟨gi, fi1, fi2, fi3⟩ := exAt_f hf hi
  obtain ⟨gj, fj1, fj2, fj3⟩ := exAt_f hf hj
  obtain ⟨a1, a2, -, -⟩ := hE2 i _ gi
  obtain ⟨b1, b2, -, -⟩ := hE2 j _ gj
  generalize hx : exAt m i = x at *
  generalize hy : exAt m j = y at *
  have e4 : ∀ k, (4 : Int32) * nI k = nI (4 * k) := fun k => by rw [show (4 : Int32) = nI 4 from rfl, nI_mul]
  have e41 : ∀ k, (4 : Int32) * nI k + 1 = nI (4 * k + 1) := fun k => by rw [e4, nI_1]
  refine S_Judge_sameName h50 ?_
  simp only [e4, nI_1]
  refine ⟨by decide, vp_in_nI (by omega) (by decide), by decide, vp_in_nI (by omega) (by decide), by decide, vp_in_nI (by omega) (by decide), by decide, vp_in_nI (by omega) (by decide), ?_⟩
  rw [nI_clamp (by omega), nI_clamp (by omega), nI_clamp (by omega), nI_clamp (by omega), a1, a2, b1, b2]
  refine pk_eq x.2.1 y.2.1 (fun hs => ?_) fun hs => ⟨rfl, ?_, rfl⟩
  · refine allN (n := x.2.1) (p := fun j => decide (t (x.1 + j) = t (y.1 + j))) (W := fun k => Wq 65 d 63 [some (.ref 50), none, none, some (.int (nI x.1)), some (.int (nI y.1)), some (.int (nI x.2.1)), some (.int (nI k))] [] σ (Qi fun r σ' => σ'.2.2 = σ.2.2 ∧ r = b2i (sameN t x y) ∧ σ' = σ)) (Y := fun b => b = sameN t x y) ?_ (fun h => ?_) fun k hk hn hF => ?_
    · unfold sameN
      rw [decide_eq_true hs, Bool.true_and]
    · exact S_Judge_sameName_63 h50 (pk_le x.2.1 x.2.1 (fun _ => ⟨rfl, congrArg b2i h, rfl⟩) (fun z => absurd z (by omega)))
    · refine S_Judge_sameName_63 h50 (pk_le x.2.1 k (fun z => absurd z (by omega)) fun _ => ?_)
      rw [nI_add, nI_add]
      refine ⟨by decide, vp_in_nI (by omega) (by decide), by decide, vp_in_nI (by omega) (by decide), ?_⟩
      rw [nI_clamp (by omega), nI_clamp (by omega), h25 _ (by omega), h25 _ (by omega), i8_eq, nI_1]
      exact ⟨fun z => hn (decide_eq_true z), fun z => ⟨rfl, congrArg b2i (hF (decide_eq_false z)), rfl⟩⟩
  · unfold sameN
    rw [decide_eq_false hs]
    rfl
theorem c_thN {k : Nat} (hD : DX m σ) (h50 : σ.2.2 50 0 = 25) (hk : k ≤ 3) : Di d 64 [.ref 50, .int (nI k)] σ (fun r σ' => r = nI (thN m k) ∧ σ' = σ) := by
  have ek : (nI k).toInt = (k : Int) := nI_toInt (by omega)
  refine S_Judge_thingsOfKind h50 ?_
  rw [ek]
  refine ⟨fun z => ⟨by decide, rfl, ?_, rfl⟩, fun z => ⟨by decide, rfl, ?_, rfl⟩, fun z => ⟨by decide, rfl, ?_, rfl⟩, fun z => ⟨by decide, rfl, ?_, rfl⟩, trivial⟩
  · have : k = 3 := by omega
    subst this
    exact hD.2.2.2.2.1.1
  · have : k = 0 := by omega
    subst this
    exact hD.2.1.1
  · have : k = 1 := by omega
    subst this
    exact hD.2.2.1.1
  · have : k = 2 := by omega
    subst this
    exact hD.2.2.2.1.1
theorem c_vEx (hD : DX m σ) (hl : lenM m) (hf : fcM t n m) (hn4 : n ≤ 4000) (h50 : σ.2.2 50 0 = 25) (h25 : ∀ k, k < n → σ.1 25 k = (t k).toInt8.toInt32) : Di (d + 1) 61 [.ref 50] σ (fun r σ' => r = b2i (vEx t m) ∧ σ' = σ) := by
  have l1 : (mdE m).length ≤ 60 := hl.2.2.2.2.2.1
  have hE1 := hD.2.2.2.2.2.1.1
  have hE2 := hD.2.2.2.2.2.1.2
  have e4 : ∀ k, (4 : Int32) * nI k = nI (4 * k) := fun k => by rw [show (4 : Int32) = nI 4 from rfl, nI_mul]
  have e42 : ∀ k, (4 : Int32) * nI k + 2 = nI (4 * k + 2) := fun k => by rw [e4, show (2 : Int32) = nI 2 from rfl, nI_add]
  have e43 : ∀ k, (4 : Int32) * nI k + 3 = nI (4 * k + 3) := fun k => by rw [e4, show (3 : Int32) = nI 3 from rfl, nI_add]
  refine S_Judge_exportsFit ?_
  refine allN (n := (mdE m).length) (p := fun k => vE1 t m k) (W := fun k => Wq 61 (d + 1) 2 [some (.ref 50), some (.int (nI k)), none, none] [] σ (Qi fun r σ' => σ'.2.2 = σ.2.2 ∧ r = b2i (vEx t m) ∧ σ' = σ)) (Y := fun b => b = vEx t m) rfl (fun h => ?_) fun k hk hn hF => ?_
  · exact S_Judge_exportsFit_2 h50 ⟨by decide, pk_le (mdE m).length (mdE m).length (fun _ => ⟨rfl, congrArg b2i h, rfl⟩) (fun z => absurd z (by omega)) hE1⟩
  · obtain ⟨gx, fx1, fx2, fx3⟩ := exAt_f hf hk
    obtain ⟨-, -, a3, a4⟩ := hE2 k _ gx
    have ht := thN_le (k := (exAt m k).2.2.1) hl
    refine S_Judge_exportsFit_2 h50 ⟨by decide, pk_le (mdE m).length k (fun z => absurd z (by omega)) (fun _ => ⟨by decide, ?_⟩) hE1⟩
    refine S_ModuleRows_numberOf_v1 ?_
    rw [e43]
    refine ⟨vp_in_nI (by omega) (by decide), rfl, ?_⟩
    rw [nI_clamp (by omega), a4]
    refine ⟨fun z => ?_, fun z => ⟨by decide, ?_⟩⟩
    · have := (nI_neg fx3).mp z
      refine ⟨rfl, congrArg b2i (hF ?_), rfl⟩
      unfold vE1
      rw [decide_eq_false (by omega)]
      rfl
    · have hx31 : (exAt m k).2.2.2 < 2 ^ 31 := Nat.not_le.mp fun y => z ((nI_neg fx3).mpr y)
      refine S_ModuleRows_kindOf_v1 ?_
      rw [e42]
      refine ⟨vp_in_nI (by omega) (by decide), rfl, ?_⟩
      show Di d 64 [.ref 50, .int (σ.1 32 (nI (4 * k + 2)).toNatClampNeg)] σ _
      rw [nI_clamp (by omega), a3]
      refine (c_thN hD h50 fx2).mono fun x σ1 hx => ?_
      obtain ⟨r, rfl, e1, hr, hs⟩ := Qi_s hx
      subst hr
      rw [hs]
      refine ⟨rfl, ?_⟩
      refine pk_lt (exAt m k).2.2.2 (thN m (exAt m k).2.2.1) (fun y => ?_) fun y => ⟨rfl, congrArg b2i (hF ?_), rfl⟩
      · refine allN (n := k) (p := fun j => !sameN t (exAt m k) (exAt m j)) (W := fun j => Wq 61 (d + 1) 46 [some (.ref 50), some (.int (nI k)), none, some (.int (nI j))] [] σ (Qi fun r σ' => σ'.2.2 = σ.2.2 ∧ r = b2i (vEx t m) ∧ σ' = σ)) (Y := fun b => vE1 t m k = b) ?_ (fun h => ?_) fun j hj hn2 hF2 => ?_
        · unfold vE1
          rw [decide_eq_true y, Bool.true_and]
        · refine S_Judge_exportsFit_46 (pk_le k k (fun _ => ?_) (fun z => absurd z (by omega)))
          rw [nI_1]
          exact hn h
        · refine S_Judge_exportsFit_46 (pk_le k j (fun z => absurd z (by omega)) fun _ => ?_)
          refine (c_sameN hD hl hf hn4 h50 h25 hk (by omega)).mono fun x σ1 hx => ?_
          obtain ⟨r, rfl, e1, hr, hs⟩ := Qi_s hx
          subst hr
          rw [hs]
          refine ⟨rfl, ?_⟩
          refine ⟨fun z => ?_, fun z => ⟨rfl, congrArg b2i (hF (hF2 ?_)), rfl⟩⟩
          · rw [nI_1]
            exact hn2 (by rw [b2i_0.mp z]; rfl)
          · cases hb : sameN t (exAt m k) (exAt m j) with
            | false => exact absurd (b2i_0.mpr hb) z
            | true => rfl
      · unfold vE1
        rw [decide_eq_false (by omega)]
        rfl
theorem c_vEl (hD : DX m σ) (hl : lenM m) (hf : fcM t n m) (he : (elAll (mdL m)).length ≤ 4000) (h50 : σ.2.2 50 0 = 25) : Di d 66 [.ref 50] σ (fun r σ' => r = b2i (vEl m) ∧ σ' = σ) := by
  have l1 : (mdL m).length ≤ 60 := hl.2.2.2.2.2.2.1
  have l2 : (mdU m).length ≤ 60 := hl.2.1
  have l3 : (mdA m).length ≤ 60 := hl.2.2.1
  have hU1 := hD.2.1.1
  have hA1 := hD.2.2.1.1
  obtain ⟨hL1, hL2, hL3, hL4⟩ := hD.2.2.2.2.2.2.1
  have e3 : ∀ k, (3 : Int32) * nI k = nI (3 * k) := fun k => by rw [show (3 : Int32) = nI 3 from rfl, nI_mul]
  have fin : (mdL m).all (fun x => decide ((mdA m).length ≠ 0) && decide (x.1 = 65)) = true → Wq 66 d 49 [some (.ref 50), some (.int (nI 0))] [] σ (Qi fun r σ' => σ'.2.2 = σ.2.2 ∧ r = b2i (vEl m) ∧ σ' = σ) := fun h1 => by
    refine allR (l := elAll (mdL m)) (p := fun y => decide (y < (mdU m).length)) (W := fun k => Wq 66 d 49 [some (.ref 50), some (.int (nI k))] [] σ (Qi fun r σ' => σ'.2.2 = σ.2.2 ∧ r = b2i (vEl m) ∧ σ' = σ)) (Y := fun b => b = vEl m) ?_ (fun h => ?_) fun k x hx hn hF => ?_
    · unfold vEl
      rw [h1, Bool.true_and]
    · exact S_Judge_elementsFit_49 h50 ⟨by decide, pk_le (elAll (mdL m)).length (elAll (mdL m)).length (fun _ => ⟨rfl, congrArg b2i h, rfl⟩) (fun z => absurd z (by omega)) hL3⟩
    · have hk := get_lt hx
      have hx32 : x < 2 ^ 32 := by
        obtain ⟨e, he1, he2⟩ := List.mem_flatMap.mp (List.mem_of_getElem? hx)
        exact (hf.2.2.2.2.2.2 e he1).2.2 x he2
      refine S_Judge_elementsFit_49 h50 ⟨by decide, pk_le (elAll (mdL m)).length k (fun z => absurd z (by omega)) (fun _ => ⟨by decide, vp_in_nI (by omega) (by decide), ?_⟩) hL3⟩
      rw [nI_clamp (by omega), hL4 k x hx, hU1]
      refine ⟨fun z => ?_, fun z => ⟨by decide, vp_in_nI (by omega) (by decide), by decide, ?_⟩⟩
      · have := (nI_neg hx32).mp z
        exact ⟨rfl, congrArg b2i (hF (decide_eq_false (by omega))), rfl⟩
      · have hx31 : x < 2 ^ 31 := Nat.not_le.mp fun y => z ((nI_neg hx32).mpr y)
        refine pk_lt x (mdU m).length (fun y => ?_) (fun y => ?_)
        · rw [nI_1]
          exact hn (decide_eq_true y)
        · exact ⟨rfl, congrArg b2i (hF (decide_eq_false (by omega))), rfl⟩
  refine S_Judge_elementsFit ?_
  refine allR (l := mdL m) (p := fun x => decide ((mdA m).length ≠ 0) && decide (x.1 = 65)) (W := fun k => Wq 66 d 2 [some (.ref 50), some (.int (nI k))] [] σ (Qi fun r σ' => σ'.2.2 = σ.2.2 ∧ r = b2i (vEl m) ∧ σ' = σ)) (Y := fun b => (mdL m).all (fun x => decide ((mdA m).length ≠ 0) && decide (x.1 = 65)) = b) rfl (fun h => ?_) fun k x hx hn hF => ?_
  · exact S_Judge_elementsFit_2 h50 ⟨by decide, pk_le (mdL m).length (mdL m).length (fun _ => fin h) (fun z => absurd z (by omega)) hL1⟩
  · have hk := get_lt hx
    obtain ⟨f1, f2, f3⟩ := hf.2.2.2.2.2.2 x (List.mem_of_getElem? hx)
    obtain ⟨b1, b2, b3, b4⟩ := hL2 k x hx
    have no : (decide ((mdA m).length ≠ 0) && decide (x.1 = 65)) = false → false = vEl m := fun z => by
      unfold vEl
      rw [hF z, Bool.false_and]
    have hx65 : x.1 < 2 ^ 31 := by rcases f1 with z | z | z <;> omega
    refine S_Judge_elementsFit_2 h50 ⟨by decide, pk_le (mdL m).length k (fun z => absurd z (by omega)) (fun _ => ⟨by decide, ?_⟩) hL1⟩
    refine pk_eq (mdA m).length 0 (fun z => ⟨rfl, congrArg b2i (no ?_), rfl⟩) (fun z => ⟨by decide, ?_⟩) hA1
    · rw [decide_eq_false (by omega)]
      rfl
    · rw [e3]
      refine ⟨vp_in_nI (by omega) (by decide), ?_⟩
      rw [nI_clamp (by omega), b1]
      refine pk_eq x.1 65 (fun y => ?_) fun y => ⟨rfl, congrArg b2i (no ?_), rfl⟩
      · rw [nI_1]
        refine hn ?_
        rw [decide_eq_true z, decide_eq_true y]
        rfl
      · rw [decide_eq_false y, Bool.and_false]
end EXX
