/-! RUNNING: the judge's state where a branch goes on -/
section TGT
variable {t : Nat → UInt8} {n f : Nat} {m : Md}
theorem okFn.bt (h : okFn t n m f) {o : Nat} {I : In} (h1 : fiS (fiAt m f) ≤ o) (h2 : o ≤ fiE (fiAt m f)) (hI : (mdC m).2[o]? = some I) (h24 : 2 ≤ iOp I ∧ iOp I ≤ 4) : isT0 (iB I) := by
  obtain ⟨q, u1, -⟩ := h.rd.2 o I h1 h2 hI
  have u2 := (pI_l u1).2.2.2.2.2
  unfold pI2 at u2
  rw [if_neg (by omega), if_neg (by omega), if_pos h24] at u2
  split at u2
  · cases u2
  · obtain ⟨bt, q2, h3, u2⟩ := bR_inl u2
    have e1 : mkI I.1 (iOp I) (lN bt, 0, []) = I := congrArg Prod.fst (Sum.inl.inj u2)
    have e2 : iB I = bt := by
      rw [← e1]
      exact iB_of2 (by have := (pBt_l h3).2.2.1; omega)
    rw [e2]
    unfold pBt at h3
    split at h3
    · cases h3
      exact .inl rfl
    · exact .inr (nT_l h3).2.1
/-- what an opened block's state is like, from behind its opener on -/
theorem okFn.opn (h : okFn t n m f) {o : Nat} {I : In} (h1 : fiS (fiAt m f) ≤ o) (h2 : o ≤ fiE (fiAt m f)) (hI : (mdC m).2[o]? = some I) (h24 : 2 ≤ iOp I ∧ iOp I ≤ 4) :
    jAt t m f (o + 1) = (jT (if iOp I = 4 then (jPop 127 (jAt t m f o)).2 else jAt t m f o), jB (jAt t m f o) ++ [(some o, (jT (if iOp I = 4 then (jPop 127 (jAt t m f o)).2 else jAt t m f o)).length, iB I, false)], true) := by
  have hb := (h.skj h1 h2).len
  have h20 := h.C.2.2 o
  have e := h.succ h1 h2 hI
  have hg := h.goodAt (i := o + 1) (by omega) (by omega)
  rw [jI_24 h24] at e
  have eB : jB (if iOp I = 4 then (jPop 127 (jAt t m f o)).2 else jAt t m f o) = jB (jAt t m f o) := by
    split
    · exact jPop_B
    · rfl
  unfold jOpen at e
  rw [eB, if_pos (by omega)] at e
  rw [e] at hg ⊢
  have hg : jG (if iOp I = 4 then (jPop 127 (jAt t m f o)).2 else jAt t m f o) = true := hg
  rw [hg]
theorem part_T {J : JS} {b : Bk} (hok : jok J) (hb : jTop J = some b) (hg : jG (jPart J) = true) : jT (jPart J) = (jT J).take (bkF b) := by
  obtain ⟨k, hk, hb2⟩ := top_get hb
  obtain ⟨-, b', v, c1, c2, c3, c4⟩ := (stays.rf hok (by omega)).part
  rw [hb] at c1
  cases c1
  have hlen : (jT (jPart J)).length = bkF b := by
    unfold jPart at hg ⊢
    rw [hb] at hg ⊢
    have hg : (jG (jPopG (bkG b) J) && decide ((jT (jPopG (bkG b) J)).length = bkF b)) = true := hg
    rw [Bool.and_eq_true, decide_eq_true_iff] at hg
    exact hg.2
  rw [← c3, ← hlen, List.take_length]
def gvL (g : Nat) : List Nat := if g = 0 then [] else [g]
theorem pushG_T {J : JS} {g : Nat} (hl : (jT J).length ≤ 4000) : jPushG g J = (jT J ++ gvL g, jB J, jG J) := by
  unfold jPushG gvL jPush
  split
  · rw [List.append_nil]
    rfl
  · rw [if_pos (by omega)]
/-- behind a block -/
theorem okFn.aft (h : okFn t n m f) {o : Nat} {I : In} (h1 : fiS (fiAt m f) ≤ o) (h2 : o ≤ fiE (fiAt m f)) (hI : (mdC m).2[o]? = some I) (h24 : 2 ≤ iOp I ∧ iOp I ≤ 4) :
    jAt t m f (endI (mdC m).2 o + 1) = (jT (jAt t m f (o + 1)) ++ gvL (iB I), jB (jAt t m f o), true) ∧ (opC (mdC m).2 o = 4 → opC (mdC m).2 (nx (mdC m).2 o) = 11 → iB I = 0) := by
  obtain ⟨⟨r1, r2, r3, x, r4⟩, r5⟩ := h.reg h1 h2 hI h24
  obtain ⟨-, p1, p2, ⟨v0, p3⟩, p4, p5⟩ := r5 _ r1 (Nat.le_refl _)
  have hej := h.jo (i := endI (mdC m).2 o) (by omega) (by omega)
  have heK := (h.skj (i := endI (mdC m).2 o) (by omega) (by omega)).len
  have hoK := (h.skj h1 h2).len
  have hlen : (jB (jAt t m f (endI (mdC m).2 o))).length = (jB (jAt t m f o)).length + 1 := by
    rw [heK, r4, List.length_cons, hoK]
  have hTl := h.Tl (i := o + 1) (by omega) (by omega)
  have hC4 := h.1.2.2.2.2.2.2.1
  have hE := h.fF.2.1
  obtain ⟨I2, hI2, hfI2⟩ := h.ins (i := endI (mdC m).2 o) (by omega)
  have e11 : iOp I2 = 11 := by rw [opC_get hI2] at r3; exact r3
  have e := h.succ (by omega) (by omega) hI2
  have hg := h.goodAt (i := endI (mdC m).2 o + 1) (by omega) (by omega)
  rw [jI_11 e11] at e
  obtain ⟨b, b1, b2, b3, b4, b5⟩ := blk_of (bad := eBad (mdC m).2 (jAt t m f (endI (mdC m).2 o))) hej (by omega)
  obtain ⟨k, hk, hb2⟩ := top_get b1
  have ek : k = (jB (jAt t m f o)).length := by omega
  subst ek
  rw [p3] at hb2
  have hb2 := (Option.some.inj hb2).symm
  have hF : bkF b = (jT (jAt t m f (o + 1))).length := by rw [hb2]; rfl
  have hG : bkG b = iB I := by rw [hb2]; rfl
  have hO : bkO b = some o := by rw [hb2]; rfl
  rw [b5] at e
  rw [e] at hg
  rw [jG_pushG] at hg
  have hg2 : (jG (jPart (jAt t m f (endI (mdC m).2 o))) && !(eBad (mdC m).2 (jAt t m f (endI (mdC m).2 o)) && decide (bkG b ≠ 0))) = true := hg
  have hg3 := hg2
  rw [Bool.and_eq_true] at hg3
  have hT := part_T hej b1 hg3.1
  rw [hF, p4, List.take_length] at hT
  have hjB0 : (jB (jAt t m f (o + 1))).take (jB (jAt t m f o)).length = jB (jAt t m f o) := by
    rw [h.opn h1 h2 hI h24]
    show (jB (jAt t m f o) ++ [_]).take _ = _
    rw [List.take_append_of_le_length (Nat.le_refl _), List.take_length]
  refine ⟨?_, fun w1 w2 => ?_⟩
  · rw [e, pushG_T (by show (jT (jPart _)).length ≤ 4000; rw [hT]; omega)]
    show (jT (jPart _) ++ gvL (bkG b), (jB _).take _, _) = _
    rw [hT, hG, hlen, Nat.add_sub_cancel, p2, hjB0]
    congr 2
    show (jG (jPart _) && !(_ && decide (iB I ≠ 0))) = true
    rw [← hG]
    exact hg2
  · have hbad : eBad (mdC m).2 (jAt t m f (endI (mdC m).2 o)) = true := by
      unfold eBad
      rw [b1]
      show bBad (mdC m).2 b = true
      unfold bBad
      rw [hO]
      show (decide _ && decide _) = true
      rw [decide_eq_true w1, decide_eq_true w2]
      rfl
    rw [hbad, hG, Bool.true_and] at hg3
    have := hg3.2
    by_cases w : iB I = 0
    · exact w
    · rw [decide_eq_true w] at this
      cases this
/-- behind the 5 of an if -/
theorem okFn.els (h : okFn t n m f) {o : Nat} {I : In} (h1 : fiS (fiAt m f) ≤ o) (h2 : o ≤ fiE (fiAt m f)) (hI : (mdC m).2[o]? = some I) (h4 : iOp I = 4) (h5 : opC (mdC m).2 (nx (mdC m).2 o) = 5) :
    o < nx (mdC m).2 o ∧ nx (mdC m).2 o < endI (mdC m).2 o ∧ sk (mdC m).2 (nx (mdC m).2 o) = (o, o) :: sk (mdC m).2 o ∧ jAt t m f (nx (mdC m).2 o + 1) = (jT (jAt t m f (o + 1)), jB (jAt t m f o) ++ [(some o, (jT (jAt t m f (o + 1))).length, iB I, false)], true) := by
  have h24 : 2 ≤ iOp I ∧ iOp I ≤ 4 := by omega
  obtain ⟨⟨r1, r2, r3, x, r4⟩, r5⟩ := h.reg h1 h2 hI h24
  have hC4 := h.1.2.2.2.2.2.2.1
  have hE := h.fF.2.1
  have hw := h.1.2.1
  obtain ⟨IE, hIE, -⟩ := h.ins (i := endI (mdC m).2 o) (by omega)
  have e11 : iOp IE = 11 := by rw [opC_get hIE] at r3; exact r3
  -- the 5 closes the first part
  have hcl : clo (mdC m).2 o := by
    refine Classical.byContradiction fun hno => ?_
    have h0 : nx (mdC m).2 o = 0 := by
      unfold nx
      cases hf : (List.range (mdC m).2.length).find? (cloP (mdC m).2 o) with
      | none => rfl
      | some k =>
        have h9 := List.find?_some hf
        have h8 := List.mem_range.mp (List.mem_of_find?_eq_some hf)
        exact absurd ⟨k, h8, h9⟩ hno
    rw [h0] at h5
    have e0 : endI (mdC m).2 o = nx (mdC m).2 0 := by
      unfold endI
      rw [h0, if_pos h5]
    -- 0 is a 5: nothing is open there
    have hlt : 0 < (mdC m).2.length := by omega
    have hs1 : sk (mdC m).2 1 = [] := by
      have hg : (mdC m).2[0]? = some (mdC m).2[0] := List.getElem?_eq_getElem hlt
      rw [sk_succ hg]
      rw [opC_get hg] at h5
      unfold skS
      rw [if_neg (by omega), if_pos h5]
      rfl
    have hm : (o, x) ∈ sk (mdC m).2 (endI (mdC m).2 o) := by rw [r4]; exact List.mem_cons_self
    have := sk_ge hs1 (i := endI (mdC m).2 o) (by omega) hm
    -- then x closes at nx x; but endI o = nx 0
    have hx := nx_eq hIE (.inr e11) r4
    rw [e0] at r1 hx r4
    obtain ⟨n1, n2, o2, r2', n3⟩ := nx_get (C := (mdC m).2) (x := x) ⟨nx (mdC m).2 0, by rw [← e0]; exact get_lt hIE, by
      unfold cloP
      rw [← e0, opC_get hIE, e11, e0, r4]
      simp⟩
    by_cases hx0 : x = 0
    · have := (skO_lt (sk_O (mdC m).2 (nx (mdC m).2 0)) (by rw [r4]; exact List.mem_cons_self : (o, x) ∈ _)).1
      omega
    · have hc0 : ¬ clo (mdC m).2 0 ∨ clo (mdC m).2 0 := (Classical.em _).symm
      rcases hc0 with hc0 | hc0
      · have h00 : nx (mdC m).2 0 = 0 := by
          unfold nx
          cases hf : (List.range (mdC m).2.length).find? (cloP (mdC m).2 0) with
          | none => rfl
          | some k =>
            have h9 := List.find?_some hf
            have h8 := List.mem_range.mp (List.mem_of_find?_eq_some hf)
            exact absurd ⟨k, h8, h9⟩ hc0
        omega
      · obtain ⟨q1, q2, o3, r3', q3⟩ := nx_get hc0
        rw [q3] at r4
        cases r4
        exact hx0 rfl
  obtain ⟨n1, n2, o2, r2', n3⟩ := nx_get hcl
  have hN : (mdC m).2[nx (mdC m).2 o]? = some (mdC m).2[nx (mdC m).2 o] := List.getElem?_eq_getElem n1
  have i5 : iOp (mdC m).2[nx (mdC m).2 o] = 5 := by rw [← opC_get hN]; exact h5
  have hmN : (o2, o) ∈ sk (mdC m).2 (nx (mdC m).2 o) := by rw [n3]; exact List.mem_cons_self
  have hlo := skO_lt (sk_O (mdC m).2 (nx (mdC m).2 o)) hmN
  have ho2 : o2 = o := by
    obtain ⟨-, hk⟩ := sk_kind (by omega) hmN
    rcases hk with z | ⟨j2, z, z2⟩
    · exact z.symm
    · rw [hI] at z
      cases z
      omega
  subst ho2
  have hlt : nx (mdC m).2 o2 < endI (mdC m).2 o2 := by
    rcases Nat.lt_trichotomy (nx (mdC m).2 o2) (endI (mdC m).2 o2) with z | z | z
    · exact z
    · rw [z, r3] at h5
      cases h5
    · exact absurd rfl (sk_goneO hIE e11 r4 z hmN)
  obtain ⟨-, p1, p2, ⟨v0, p3⟩, p4, p5⟩ := r5 (nx (mdC m).2 o2) hlo.2 (by omega)
  have hs : sk (mdC m).2 (nx (mdC m).2 o2) = (o2, o2) :: sk (mdC m).2 o2 := by
    rw [n3]
    congr 1
    exact sk_dec (s1 := []) n3
  have hej := h.jo (i := nx (mdC m).2 o2) (by omega) (by omega)
  have heK := (h.skj (i := nx (mdC m).2 o2) (by omega) (by omega)).len
  have hoK := (h.skj h1 h2).len
  have hlen : (jB (jAt t m f (nx (mdC m).2 o2))).length = (jB (jAt t m f o2)).length + 1 := by
    rw [heK, hs, List.length_cons, hoK]
  refine ⟨hlo.2, hlt, hs, ?_⟩
  have e := h.succ (i := nx (mdC m).2 o2) (by omega) (by omega) hN
  have hg := h.goodAt (i := nx (mdC m).2 o2 + 1) (by omega) (by omega)
  have eI : jI t m f (nx (mdC m).2 o2) (mdC m).2[nx (mdC m).2 o2] (jAt t m f (nx (mdC m).2 o2)) = jElse (jAt t m f (nx (mdC m).2 o2)) := by
    unfold jI jStr
    rw [i5]
    rfl
  rw [eI] at e
  obtain ⟨k, b, a1, a2, a3⟩ := top_some (J := jAt t m f (nx (mdC m).2 o2)) (by omega)
  have ek : k = (jB (jAt t m f o2)).length := by omega
  subst ek
  rw [p3] at a2
  have hb2 := (Option.some.inj a2).symm
  have hpT : jTop (jPart (jAt t m f (nx (mdC m).2 o2))) = some b := by rw [jTop_B jPart_B]; exact a3
  have eE : jElse (jAt t m f (nx (mdC m).2 o2)) = (jT (jPart (jAt t m f (nx (mdC m).2 o2))), jSetD (jPart (jAt t m f (nx (mdC m).2 o2))) b false, jG (jPart (jAt t m f (nx (mdC m).2 o2)))) := by
    unfold jElse
    rw [hpT]
  rw [eE] at e
  rw [e] at hg
  have hg : jG (jPart (jAt t m f (nx (mdC m).2 o2))) = true := hg
  have hT := part_T hej a3 hg
  have hF : bkF b = (jT (jAt t m f (o2 + 1))).length := by rw [hb2]; rfl
  rw [hF, p4, List.take_length] at hT
  have hjB0 : (jB (jAt t m f (o2 + 1))).take (jB (jAt t m f o2)).length = jB (jAt t m f o2) := by
    rw [h.opn h1 h2 hI h24]
    show (jB (jAt t m f o2) ++ [_]).take _ = _
    rw [List.take_append_of_le_length (Nat.le_refl _), List.take_length]
  rw [e, hT, hg]
  unfold jSetD
  rw [jPart_B, hlen, Nat.add_sub_cancel, p2, hjB0, hb2]
  rfl
/-- a block that is open, found by its number -/
theorem okFn.blk (h : okFn t n m f) {i k o : Nat} {b : Bk} (h1 : fiS (fiAt m f) ≤ i) (h2 : i ≤ fiE (fiAt m f)) (hb : (jB (jAt t m f i))[k]? = some b) (ho : bkO b = some o) :
    ∃ I, (mdC m).2[o]? = some I ∧ (2 ≤ iOp I ∧ iOp I ≤ 4) ∧ fiS (fiAt m f) ≤ o ∧ o < i ∧ i ≤ endI (mdC m).2 o ∧ (jB (jAt t m f o)).length = k ∧ bkF b = (jT (jAt t m f (o + 1))).length ∧ bkG b = iB I ∧ (jT (jAt t m f i)).take (bkF b) = jT (jAt t m f (o + 1)) ∧ (jB (jAt t m f i)).take k = jB (jAt t m f o) := by
  have hsk := h.skj h1 h2
  have hE := h.fF.2.1
  have hjo : (jO (jAt t m f i))[k]? = some (some o) := by
    unfold jO
    rw [List.getElem?_map, hb]
    exact congrArg some ho
  rw [hsk] at hjo
  unfold skO2 at hjo
  cases k with
  | zero => cases hjo
  | succ k =>
    rw [List.getElem?_cons_succ, List.getElem?_map] at hjo
    obtain ⟨a, ha, ha2⟩ := Option.map_eq_some_iff.mp hjo
    obtain ⟨o', x⟩ := a
    obtain rfl : o = o' := (Option.some.inj ha2).symm
    have hkl := get_lt ha
    rw [List.length_reverse] at hkl
    rw [List.getElem?_reverse hkl] at ha
    have hlt := get_lt ha
    have hsp : sk (mdC m).2 i = (sk (mdC m).2 i).take ((sk (mdC m).2 i).length - 1 - k) ++ (o, x) :: (sk (mdC m).2 i).drop ((sk (mdC m).2 i).length - 1 - k + 1) := by
      conv => lhs; rw [← List.take_append_drop ((sk (mdC m).2 i).length - 1 - k) (sk (mdC m).2 i)]
      rw [List.drop_eq_getElem_cons hlt]
      rw [List.getElem?_eq_getElem hlt] at ha
      rw [Option.some.inj ha]
    have hdec := sk_dec hsp
    have hm : (o, x) ∈ sk (mdC m).2 i := List.mem_of_getElem? ha
    have hx := skO_lt (sk_O (mdC m).2 i) hm
    have hge := sk_ge h.fF.2.2.1 h1 hm
    obtain ⟨⟨I, hI, h24⟩, -⟩ := sk_kind (by omega) hm
    obtain ⟨⟨r1, r2, r3, y, r4⟩, r5⟩ := h.reg hge (by omega) hI h24
    have hie : i ≤ endI (mdC m).2 o := by
      refine Nat.not_lt.mp fun z => ?_
      obtain ⟨IE, hIE, -⟩ := h.ins (i := endI (mdC m).2 o) (by omega)
      have e11 : iOp IE = 11 := by rw [opC_get hIE] at r3; exact r3
      exact absurd rfl (sk_goneO hIE e11 r4 z hm)
    obtain ⟨-, p1, p2, ⟨v0, p3⟩, p4, p5⟩ := r5 i (by omega) hie
    have hoK := (h.skj hge (by omega : o ≤ fiE (fiAt m f))).len
    have hk : (jB (jAt t m f o)).length = k + 1 := by
      have h9 : ((sk (mdC m).2 i).drop ((sk (mdC m).2 i).length - 1 - k + 1)).length = (sk (mdC m).2 o).length := congrArg List.length hdec
      rw [List.length_drop] at h9
      omega
    rw [hk] at p2 p3
    rw [hb] at p3
    have hb2 := Option.some.inj p3
    have hF : bkF b = (jT (jAt t m f (o + 1))).length := by rw [hb2]; rfl
    have hjB0 : (jB (jAt t m f (o + 1))).take (k + 1) = jB (jAt t m f o) := by
      rw [h.opn hge (by omega) hI h24]
      show (jB (jAt t m f o) ++ [_]).take _ = _
      rw [List.take_append_of_le_length (by omega), ← hk, List.take_length]
    refine ⟨I, hI, h24, hge, by omega, hie, hk, hF, by rw [hb2]; rfl, ?_, ?_⟩
    · rw [hF, p4, List.take_length]
    · rw [p2, hjB0]
end TGT
