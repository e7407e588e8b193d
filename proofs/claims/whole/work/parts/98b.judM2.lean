/-! THE VERDICT ON A MODULE: the reference, up to functions -/
section JUDM2
variable {t : Nat → UInt8} {n b d : Nat} {m : Md} {σ : fkS}
/-- the reference's verdict, given what comes of its functions -/
theorem m_judge {Q : Option Value → fkS → Prop} (hb : b < 2) (h38 : σ.1 103 38 = nI b) (hM : MX t b m σ) (hl : lenM m) (hf : fcM t n m) (hn4 : n ≤ 4000) (h105 : ∀ k, k < n → σ.1 105 (4000 * b + k) = bI (t k))
    (ok : vTy m = true → vdM t m = (if vFs t m = true then 0 else -3) → Wq 265 (d + 2) 346 [some (.ref 103), some (.int (nI 0)), none] [] σ Q) (no : vdM t m ≠ 0 → Q (some (.int (vdM t m))) σ) : Cl (d + 2) 265 [.ref 103] σ Q := by
  have l1 : (mdT m).length ≤ 60 := hl.1
  have l2 : (mdU m).length ≤ 60 := hl.2.1
  have l3 : (mdA m).length ≤ 60 := hl.2.2.1
  have l4 : (mdM m).length ≤ 60 := hl.2.2.2.1
  have hM2 := hM
  obtain ⟨hT, hU, hA, hMm, -⟩ := hM2
  have v2 : vp_in (nI b) 2 := vp_in_nI hb (by decide)
  have cb : (nI b).toNatClampNeg = b := nI_clamp (by omega)
  have e100 : (100 : Int64) = (nI 100).toInt64 := rfl
  have e2 : (2 : Int64) = (nI 2).toInt64 := rfl
  have bad3 : (vTy m = false ∨ 1 < (mdA m).length ∨ 1 < (mdM m).length) → Q (some (.int (-3 : Int32))) σ := fun z => by
    have e1 : vdM t m = -3 := if_pos z
    have := no (by rw [e1]; decide)
    rwa [e1] at this
  refine S_M_judge ?_
  refine allR (l := mdU m) (p := fun x => decide (x < (mdT m).length)) (W := fun k => Wq 265 (d + 2) 2 [some (.ref 103), some (.int (nI k)), none] [] σ Q) (Y := fun c => vTy m = c) rfl (fun hTy => ?_) fun k x hx hn hF => ?_
  · refine S_M_judge_2 ?_
    rw [h38, cb, hU.2, hA.2, hMm.2]
    refine ⟨v2, pk_le (mdU m).length (mdU m).length (fun _ => ⟨v2, pk_lt 1 (mdA m).length (fun z => bad3 (.inr (.inl z))) fun zA => ⟨v2, pk_le (mdM m).length 1 (fun zM => ⟨v2, ?_⟩) fun z => bad3 (.inr (.inr z))⟩⟩) (fun z => absurd z (by omega))⟩
    have e0 : vdM t m = if limOf 100 (mdA m) ≠ 0 then limOf 100 (mdA m) else if limOf 2 (mdM m) ≠ 0 then limOf 2 (mdM m) else if (vGl m && vEx t m && vEl m) = false then -3 else if vFs t m = true then 0 else -3 := by
      unfold vdM
      rw [if_neg (by rw [hTy]; simp; omega)]
    -- after the limits
    have fin : limOf 100 (mdA m) = 0 → limOf 2 (mdM m) = 0 → Wq 265 (d + 2) 257 [some (.ref 103), some (.int (nI 0)), none] [] σ Q := fun zA zM => by
      rw [if_neg (fun y => y zA), if_neg (fun y => y zM)] at e0
      refine w_mj257 (d := d) hb h38 hM hl hf hn4 h105 (fun z => ok hTy ?_) fun z => ?_
      · rw [e0, if_neg (by rw [z]; decide)]
      · rw [if_pos z] at e0
        have := no (by rw [e0]; decide)
        rwa [e0] at this
    have mem : limOf 100 (mdA m) = 0 → Wq 265 (d + 2) 168 [some (.ref 103), none, none] [] σ Q := fun zA => by
      refine S_M_judge_168 ?_
      rw [h38, cb, hMm.2]
      refine ⟨v2, And.comm.mp (pk_eq (mdM m).length 1 (fun s => ⟨v2, ?_⟩) fun s => fin zA (if_neg s))⟩
      obtain ⟨g1, g2⟩ := li_get s
      have eL : limOf 2 (mdM m) = liV 2 (liLast (mdM m)) := if_pos s
      obtain ⟨q1, q2⟩ := hMm.1 0 _ (li_first s) rfl
      rw [if_neg (fun y => y zA)] at e0
      obtain ⟨f1, f2⟩ := lim_fin (x := liLast (mdM m)) (most := 2) (A := Q (some (.int (-3 : Int32))) σ) (B := Q (some (.int (-2 : Int32))) σ) (C := limOf 2 (mdM m) = 0) (hf.2.2.2.1 _ g2) (by decide)
        (fun z => by
          have e3 : limOf 2 (mdM m) = -3 := eL.trans (liV3 z)
          rw [e3, if_pos (by decide)] at e0
          have := no (by rw [e0]; decide)
          rwa [e0] at this)
        (fun z y => by
          have e3 : limOf 2 (mdM m) = -2 := eL.trans (liV2 z y)
          rw [e3, if_pos (by decide)] at e0
          have := no (by rw [e0]; decide)
          rwa [e0] at this)
        (fun z y => eL.trans (liV0 z y))
      have g : (lg_cmp (lM (liLast (mdM m)).2) (0 : Int64) < 0 ∨ ¬ lg_cmp (lM (liLast (mdM m)).2) (0 : Int64) < 0 ∧ 0 ≤ lg_cmp (lM (liLast (mdM m)).2) (lN (liLast (mdM m)).1)) → Wq 265 (d + 2) 220 [some (.ref 103), none, none] [] σ Q := fun z => by
        refine S_M_judge_220 ?_
        rw [h38, cb, q1, q2, e2]
        exact ⟨v2, (f1 z).1, fun y => ⟨v2, fun w => fin zA (((f1 z).2 y).1 w), ((f1 z).2 y).2⟩⟩
      rw [q1, q2]
      exact ⟨fun z => g (.inl z), fun z => ⟨v2, v2, fun y => g (.inr ⟨z, y⟩), fun y => f2 z y⟩⟩
    refine And.comm.mp (pk_eq (mdA m).length 1 (fun s => ⟨v2, ?_⟩) fun s => mem (if_neg s))
    obtain ⟨g1, g2⟩ := li_get s
    have eL : limOf 100 (mdA m) = liV 100 (liLast (mdA m)) := if_pos s
    obtain ⟨q1, q2⟩ := hA.1 0 _ (li_first s) rfl
    obtain ⟨f1, f2⟩ := lim_fin (x := liLast (mdA m)) (most := 100) (A := Q (some (.int (-3 : Int32))) σ) (B := Q (some (.int (-2 : Int32))) σ) (C := limOf 100 (mdA m) = 0) (hf.2.2.1 _ g2) (by decide)
      (fun z => by
        have e3 : limOf 100 (mdA m) = -3 := eL.trans (liV3 z)
        rw [e3, if_pos (by decide)] at e0
        have := no (by rw [e0]; decide)
        rwa [e0] at this)
      (fun z y => by
        have e3 : limOf 100 (mdA m) = -2 := eL.trans (liV2 z y)
        rw [e3, if_pos (by decide)] at e0
        have := no (by rw [e0]; decide)
        rwa [e0] at this)
      (fun z y => eL.trans (liV0 z y))
    have g : (lg_cmp (lM (liLast (mdA m)).2) (0 : Int64) < 0 ∨ ¬ lg_cmp (lM (liLast (mdA m)).2) (0 : Int64) < 0 ∧ 0 ≤ lg_cmp (lM (liLast (mdA m)).2) (lN (liLast (mdA m)).1)) → Wq 265 (d + 2) 133 [some (.ref 103), none, none] [] σ Q := fun z => by
      refine S_M_judge_133 ?_
      rw [h38, cb, q1, q2, e100]
      exact ⟨v2, (f1 z).1, fun y => ⟨v2, fun w => mem (((f1 z).2 y).1 w), ((f1 z).2 y).2⟩⟩
    rw [q1, q2]
    exact ⟨fun z => g (.inl z), fun z => ⟨v2, v2, fun y => g (.inr ⟨z, y⟩), fun y => f2 z y⟩⟩
  · have hk := get_lt hx
    have hx32 : x < 2 ^ 32 := hf.2.1 x (List.mem_of_getElem? hx)
    have q1 : σ.2.1 117 (60 * b + k) = lN x := hU.1 k x hx
    refine S_M_judge_2 ?_
    rw [h38, cb, hU.2, hT.2, ex, nI_clamp (n := 60 * b + k) (by omega), q1]
    refine ⟨v2, pk_le (mdU m).length k (fun z => absurd z (by omega)) (fun _ => ⟨vp_in_nI (by omega) (by decide), v2, ?_⟩)⟩
    rw [lE hx32 (by omega), nI_1]
    exact ⟨fun y => hn (decide_eq_true y), fun y => bad3 (.inl (hF (decide_eq_false y)))⟩
end JUDM2
