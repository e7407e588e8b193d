/-! THE VERDICT: exports and elements; the reference -/
theorem sameN_comm {t : Nat → UInt8} {x y : Ex} : sameN t x y = sameN t y x := by
  unfold sameN
  by_cases h : x.2.1 = y.2.1
  · rw [decide_eq_true h, decide_eq_true h.symm, h]
    congr 2
    funext j
    exact decide_eq_decide.mpr eq_comm
  · rw [decide_eq_false h, decide_eq_false (fun z => h z.symm)]
    rfl
section FITM
variable {t : Nat → UInt8} {n b d : Nat} {m : Md} {σ : fkS}
theorem w_alike0 {A B : Nat} {y : Int32} (hA : A < 120) : ∀ j : Nat, j ≤ 4001 → Wq 267 d 24 [some (.ref 103), some (.int (nI A)), some (.int y), some (.int (0 : Int32)), some (.int (nI j))] [] σ (Qi fun r σ' => r = b2i false ∧ σ' = σ) := fun j hj =>
  S_M_isAlike_24 ⟨vp_in_nI hA (by decide), fun _ => ⟨rfl, rfl⟩, fun _ => ⟨fun _ => ⟨rfl, rfl⟩, fun z => absurd rfl z⟩⟩
theorem m_alike {i j : Nat} (hb : b < 2) (h38 : σ.1 103 38 = nI b) (hM : ME b (mdE m) σ) (hl : lenM m) (hf : fcM t n m) (hn4 : n ≤ 4000) (h105 : ∀ k, k < n → σ.1 105 (4000 * b + k) = bI (t k)) (hi : i < (mdE m).length) (hj : j < (mdE m).length) : Ci d 267 [.ref 103, .int (nI (60 * b + i)), .int (nI (60 * b + j))] σ (fun r σ' => r = b2i (sameN t (exAt m i) (exAt m j)) ∧ σ' = σ) := by
  have l1 : (mdE m).length ≤ 60 := hl.2.2.2.2.2.1
  obtain ⟨gi, fi1, fi2, fi3⟩ := exAt_f hf hi
  obtain ⟨gj, fj1, fj2, fj3⟩ := exAt_f hf hj
  obtain ⟨a1, a2, -, -⟩ := hM.1 i _ gi
  obtain ⟨b1, b2, -, -⟩ := hM.1 j _ gj
  generalize hx : exAt m i = x at *
  generalize hy : exAt m j = y at *
  have vi : vp_in (nI (60 * b + i)) 120 := vp_in_nI (by omega) (by decide)
  have vj : vp_in (nI (60 * b + j)) 120 := vp_in_nI (by omega) (by decide)
  have ci : (nI (60 * b + i)).toNatClampNeg = 60 * b + i := nI_clamp (by omega)
  have cj : (nI (60 * b + j)).toNatClampNeg = 60 * b + j := nI_clamp (by omega)
  refine S_M_isAlike ⟨vi, vj, ?_⟩
  rw [ci, cj, a2, b2]
  refine And.comm.mp (pk_eq x.2.1 y.2.1 (fun hs => ?_) fun hs => ?_)
  · refine allN (n := x.2.1) (p := fun j => decide (t (x.1 + j) = t (y.1 + j))) (W := fun k => Wq 267 d 24 [some (.ref 103), some (.int (nI (60 * b + i))), some (.int (nI (60 * b + j))), some (.int (1 : Int32)), some (.int (nI k))] [] σ (Qi fun r σ' => r = b2i (sameN t x y) ∧ σ' = σ)) (Y := fun b => b = sameN t x y) ?_ (fun h => ?_) fun k hk hn hF => ?_
    · unfold sameN
      rw [decide_eq_true hs, Bool.true_and]
    · refine S_M_isAlike_24 ⟨vi, ?_⟩
      rw [ci, a2]
      exact pk_le x.2.1 x.2.1 (fun _ => ⟨congrArg b2i h, rfl⟩) (fun z => absurd z (by omega))
    · refine S_M_isAlike_24 ⟨vi, ?_⟩
      rw [ci, cj, a1, a2, b1, h38]
      refine pk_le x.2.1 k (fun z => absurd z (by omega)) fun _ => ⟨fun z => absurd z (by decide), fun _ => ?_⟩
      have e4 : ∀ q, (4000 : Int32) * nI b + nI q + nI k = nI (4000 * b + (q + k)) := fun q => by
        rw [show (4000 : Int32) = nI 4000 from rfl, nI_mul, nI_add, nI_add, Nat.add_assoc]
      rw [e4, e4, nI_clamp (by omega), nI_clamp (by omega), h105 _ (by omega), h105 _ (by omega), bI_eq, nI_1]
      refine ⟨vi, vp_in_nI (by omega) (by decide), vj, vp_in_nI (by omega) (by decide), fun z => ?_, fun z => hn (decide_eq_true z)⟩
      rw [← hF (decide_eq_false z)]
      exact w_alike0 (B := 0) (by omega) (k + 1) (by omega)
  · have : sameN t x y = false := by
      unfold sameN
      rw [decide_eq_false hs]
      rfl
    rw [this]
    exact w_alike0 (B := 0) (by omega) 0 (by omega)
theorem lE {x c : Nat} (hx : x < 2 ^ 32) (hc : c ≤ 4000) : lg_cmp (lN x) (nI c).toInt64 < 0 ↔ x < c := by
  rw [nI_l (by omega), lg_cmp_lt, pk_lLT (by omega) (by omega)]
theorem m_vEx (hb : b < 2) (h38 : σ.1 103 38 = nI b) (hM : MX t b m σ) (hl : lenM m) (hf : fcM t n m) (hn4 : n ≤ 4000) (h105 : ∀ k, k < n → σ.1 105 (4000 * b + k) = bI (t k)) : Ci (d + 1) 266 [.ref 103] σ (fun r σ' => r = b2i (vEx t m) ∧ σ' = σ) := by
  have l1 : (mdE m).length ≤ 60 := hl.2.2.2.2.2.1
  obtain ⟨-, hU, hA, hMm, hG, hE, -, -⟩ := hM
  have v2 : vp_in (nI b) 2 := vp_in_nI hb (by decide)
  have cb : (nI b).toNatClampNeg = b := nI_clamp (by omega)
  refine S_M_areExports ?_
  refine allN (n := (mdE m).length) (p := fun k => vE1 t m k) (W := fun k => Wq 266 (d + 1) 2 [some (.ref 103), some (.int (nI k)), none, none, none] [] σ (Qi fun r σ' => r = b2i (vEx t m) ∧ σ' = σ)) (Y := fun b => b = vEx t m) rfl (fun h => ?_) fun k hk hn hF => ?_
  · refine S_M_areExports_2 ?_
    rw [h38, cb, hE.2]
    exact ⟨v2, pk_le (mdE m).length (mdE m).length (fun _ => ⟨congrArg b2i h, rfl⟩) (fun z => absurd z (by omega))⟩
  · obtain ⟨gx, fx1, fx2, fx3⟩ := exAt_f hf hk
    obtain ⟨-, -, a3, a4⟩ := hE.1 k _ gx
    have ht := thN_le (k := (exAt m k).2.2.1) hl
    have vk : vp_in (nI (60 * b + k)) 120 := vp_in_nI (by omega) (by decide)
    have ck : (nI (60 * b + k)).toNatClampNeg = 60 * b + k := nI_clamp (by omega)
    have fin : ∀ c, c = thN m (exAt m k).2.2.1 → ((lg_cmp (lN (exAt m k).2.2.2) (nI c).toInt64 < 0 → Wq 266 (d + 1) 117 [some (.ref 103), some (.int (nI k)), some (.int (nI (60 * b + k))), none, some (.int (0 : Int32))] [] σ (Qi fun r σ' => r = b2i (vEx t m) ∧ σ' = σ)) ∧ (¬ lg_cmp (lN (exAt m k).2.2.2) (nI c).toInt64 < 0 → Qi (fun r σ' => r = b2i (vEx t m) ∧ σ' = σ) (some (.int (0 : Int32))) σ)) := fun c hc => by
      subst hc
      rw [lE fx3 (by omega)]
      refine ⟨fun y => ?_, fun y => ⟨congrArg b2i (hF ?_), rfl⟩⟩
      · refine allN (n := k) (p := fun j => !sameN t (exAt m k) (exAt m j)) (W := fun j => Wq 266 (d + 1) 117 [some (.ref 103), some (.int (nI k)), some (.int (nI (60 * b + k))), none, some (.int (nI j))] [] σ (Qi fun r σ' => r = b2i (vEx t m) ∧ σ' = σ)) (Y := fun b => vE1 t m k = b) ?_ (fun h => ?_) fun j hj hn2 hF2 => ?_
        · unfold vE1
          rw [decide_eq_true y, Bool.true_and]
        · refine S_M_areExports_117 (pk_le k k (fun _ => ?_) (fun z => absurd z (by omega)))
          rw [nI_1]
          exact hn h
        · refine S_M_areExports_117 (pk_le k j (fun z => absurd z (by omega)) fun _ => ?_)
          rw [h38, ex]
          refine (m_alike hb h38 hE hl hf hn4 h105 (i := j) (by omega) hk).mono fun x σ1 hx => ?_
          obtain ⟨r, rfl, hr, hs⟩ := Qi_s hx
          subst hr
          rw [hs]
          refine ⟨fun z => ?_, fun z => ⟨congrArg b2i (hF (hF2 ?_)), rfl⟩⟩
          · rw [nI_1]
            exact hn2 (by rw [sameN_comm, b2i_0.mp z]; rfl)
          · cases hb : sameN t (exAt m k) (exAt m j) with
            | false => exact absurd (b2i_0.mpr (sameN_comm.trans hb)) z
            | true => rfl
      · unfold vE1
        rw [decide_eq_false y]
        rfl
    refine S_M_areExports_2 ?_
    rw [h38, cb, hE.2, ex, ck, a3, a4, hU.2, hA.2, hMm.2, hG.2]
    refine ⟨v2, pk_le (mdE m).length k (fun z => absurd z (by omega)) (fun _ => ⟨vk, ?_⟩)⟩
    refine And.comm.mp (pk_eq (exAt m k).2.2.1 0 (fun z => ⟨v2, vk, fin _ ?_⟩) fun z0 => ⟨vk, And.comm.mp (pk_eq (exAt m k).2.2.1 1 (fun z => ⟨v2, vk, fin _ ?_⟩) fun z1 => ⟨vk, And.comm.mp (pk_eq (exAt m k).2.2.1 2 (fun z => ⟨v2, vk, fin _ ?_⟩) fun z2 => ⟨v2, vk, fin _ ?_⟩)⟩)⟩)
    · unfold thN
      rw [if_pos z]
    · unfold thN
      rw [if_neg z0, if_pos z]
    · unfold thN
      rw [if_neg z0, if_neg z1, if_pos z]
    · unfold thN
      rw [if_neg z0, if_neg z1, if_neg z2]
end FITM
