/-! RUNNING, in the middle: each step -/
section STEP
variable {t : Nat → UInt8} {n N f0 f i tk : Nat} {m : Md} {L S : List Int64} {e : Env} {fs : List Fm} {I : In}
theorem okFn.T4 (h : okFn t n m f) (h1 : fiS (fiAt m f) ≤ i) (h2 : i ≤ fiE (fiAt m f)) : (jT (jAt t m f i)).length ≤ 4000 := by
  have := h.Tl h1 h2
  have := h.fF.2.1
  have := h.1.2.2.2.2.2.2.1
  omega
/-- branches -/
theorem br_lv (h : okFn t n m f) (h1 : fiS (fiAt m f) ≤ i) (h2 : i ≤ fiE (fiAt m f)) (hI : (mdC m).2[i]? = some I) (hl : lv (jAt t m f i)) (ho : iOp I = 12 ∨ iOp I = 13 ∨ iOp I = 14) :
    ∃ J1 T due, J1 = jBr1 (iOp I) (jAt t m f i) ∧ lv J1 ∧ jB J1 = jB (jAt t m f i) ∧ (iOp I ≠ 12 → jT (jAt t m f i) = jT J1 ++ [127]) ∧ jT J1 = T ++ gvL due ∧ (∃ R, jT (jAt t m f i) = T ++ R) ∧ (∀ b ∈ jB J1, bkF b ≤ T.length) ∧ (∀ lab ∈ iL I, ∃ b, jBk J1 lab = some b ∧ bNeed (mdC m).2 b = due) ∧ iL I ≠ [] ∧ (iOp I = 13 → jAt t m f (i + 1) = J1) := by
  obtain ⟨I', hI', hfI⟩ := h.ins h2
  rw [hI] at hI'
  cases hI'
  have e := h.succ h1 h2 hI
  have hg := h.goodAt (i := i + 1) (by omega) (by omega)
  have eI : jI t m f i I (jAt t m f i) = jBr (mdC m).2 (iOp I) (iL I) (jAt t m f i) := by
    unfold jI
    rw [if_neg (by omega), if_pos (by omega), if_neg (by omega)]
  rw [e, eI] at hg
  unfold jBr at hg
  have g2 := jG_br3 hg
  have g3 : jG (jAnd (jBr1 (iOp I) (jAt t m f i)) ((iL I).all (jOk1 (mdC m).2 (jBr1 (iOp I) (jAt t m f i)) (jDue (mdC m).2 (jBr1 (iOp I) (jAt t m f i)) (iL I))))) = true := g2
  obtain ⟨g4, g5⟩ := jAnd_g g3
  have e2 : jBr2 (mdC m).2 (iL I) (jBr1 (iOp I) (jAt t m f i)) = jBr1 (iOp I) (jAt t m f i) := g4
  rw [e2] at hg g2
  have hne : iL I ≠ [] := by
    have a1 := hfI.2.2.1
    have a2 := hfI.2.2.2.1
    intro z
    rcases ho with w | w | w
    · have := a1 (.inl w)
      rw [z] at this
      cases this
    · have := a1 (.inr w)
      rw [z] at this
      cases this
    · have := a2 w
      rw [z] at this
      cases this
  have h1l : lv (jBr1 (iOp I) (jAt t m f i)) ∧ jB (jBr1 (iOp I) (jAt t m f i)) = jB (jAt t m f i) ∧ (iOp I ≠ 12 → jT (jAt t m f i) = jT (jBr1 (iOp I) (jAt t m f i)) ++ [127]) := by
    unfold jBr1 at g2 ⊢
    by_cases z : iOp I = 12
    · rw [if_pos z]
      exact ⟨hl, rfl, fun w => absurd z w⟩
    · rw [if_neg z] at g2 ⊢
      obtain ⟨T, ty, b, a1, a2, a3, a4, a5, a6, a7⟩ := hl.pop g2
      rw [a5]
      exact ⟨a7, rfl, fun _ => by rw [a2, a4 (by decide)]; rfl⟩
  obtain ⟨l1, l2, l3⟩ := h1l
  generalize hJ1 : jBr1 (iOp I) (jAt t m f i) = J1 at *
  have hgp : jG (jPopG (jDue (mdC m).2 J1 (iL I)) J1) = true := by
    unfold jBr3 at hg
    split at hg
    · rw [jG_pushG] at hg
      exact hg
    · rw [jG_dead] at hg
      exact hg
  obtain ⟨T, t1, t2, t3, t4⟩ := popG_lv l1 hgp
  refine ⟨J1, T, jDue (mdC m).2 J1 (iL I), rfl, l1, l2, l3, t1, ?_, fun b hb => ?_, fun lab hlab => ?_, hne, fun h13 => ?_⟩
  · by_cases z : iOp I = 12
    · have : J1 = jAt t m f i := by rw [← hJ1]; exact if_pos z
      exact ⟨gvL (jDue (mdC m).2 J1 (iL I)), by rw [← this]; exact t1⟩
    · exact ⟨gvL (jDue (mdC m).2 J1 (iL I)) ++ [127], by rw [l3 z, t1, List.append_assoc]⟩
  · obtain ⟨bt, b1, b2, b3, b4⟩ := l1.top
    have := t4 bt b1
    obtain ⟨k, hk⟩ := List.mem_iff_getElem?.mp hb
    obtain ⟨k2, hk2, hb2⟩ := top_get b1
    have hkl := get_lt hk
    have := l1.1.2.2.2.2 k k2 b bt (by omega) hk hb2
    omega
  · have := List.all_eq_true.mp g5 lab hlab
    unfold jOk1 at this
    split at this
    next b hb => exact ⟨b, hb, of_decide_eq_true this⟩
    · cases this
  · rw [e, eI]
    unfold jBr
    rw [hJ1, e2]
    unfold jBr3
    rw [if_pos h13, t2]
    have h4 := h.T4 h1 h2
    have hT4 : T.length ≤ 4000 := by
      have a := l3 (by omega)
      have b := congrArg List.length a
      have c := congrArg List.length t1
      rw [List.length_append] at b c
      omega
    rw [pushG_T (by exact hT4)]
    show (T ++ gvL _, jB J1, true) = J1
    rw [← t1, ← l1.2.1]
    rfl
/-- what a state that goes on is like -/
theorem RI_st {s : St} (h : RI t n m N f0 s) : ∃ f i L S fs e tk, s = ((f, i, L, S) :: fs, [], e, tk, 0, false) ∧ okFn t n m f ∧ fiS (fiAt m f) ≤ i ∧ i ≤ fiE (fiAt m f) ∧ lv (jAt t m f i) ∧ loOk t m f L ∧ tyd S (jT (jAt t m f i)) ∧ evOk m e ∧ tk ≤ N := by
  obtain ⟨a1, a2, a3, a4, a5, a6, a7, a8, a9, a10⟩ := h
  obtain ⟨F, R, e, tk, tr, sp⟩ := s
  cases F with
  | nil => exact absurd rfl a1
  | cons x fs =>
    obtain ⟨f, i, L, S⟩ := x
    have a4 : R = [] := a4
    have a8 : tr = 0 := a8
    have a9 : sp = false := a9
    subst a4
    subst a8
    subst a9
    obtain ⟨b1, b2, b3, b4, b5, T, b6, b7⟩ := a2.1
    rw [List.append_nil] at b6
    refine ⟨f, i, L, S, fs, e, tk, rfl, b1, b2, b3, b4, b5, ?_, a6, a7⟩
    have b6 : jT (jAt t m f i) = T := b6
    rw [b6]
    exact b7
theorem fr_of {i2 : Nat} {S2 : List Int64} (h : okFn t n m f) (h1 : fiS (fiAt m f) ≤ i2) (h2 : i2 ≤ fiE (fiAt m f)) (hl : lv (jAt t m f i2)) (hL : loOk t m f L) (hS : tyd S2 (jT (jAt t m f i2))) : frOk t n m f i2 L S2 [] := ⟨h, h1, h2, hl, hL, _, (List.append_nil _).symm, hS⟩
theorem fr_of2 {i2 : Nat} {S2 : List Int64} {T pe : List Nat} (h : okFn t n m f) (h1 : fiS (fiAt m f) ≤ i2) (h2 : i2 ≤ fiE (fiAt m f)) (hl : lv (jAt t m f i2)) (hL : loOk t m f L) (hT : jT (jAt t m f i2) = T ++ pe) (hS : tyd S2 T) : frOk t n m f i2 L S2 pe := ⟨h, h1, h2, hl, hL, T, hT, hS⟩
theorem okFn.ltE (h : okFn t n m f) (h1 : fiS (fiAt m f) ≤ i) (h2 : i ≤ fiE (fiAt m f)) (hI : (mdC m).2[i]? = some I) (h11 : ¬ (iOp I = 11 ∧ sk (mdC m).2 i = [])) : i < fiE (fiAt m f) := by
  obtain ⟨-, I9, s4, s5, s6⟩ := h.rd.1
  refine Nat.lt_of_le_of_ne h2 fun z => ?_
  rw [z] at hI h11
  rw [s4] at hI
  cases hI
  exact h11 ⟨s5, s6⟩
/-- behind the 11 of a block, behind a 5 -/
theorem okFn.end11 (h : okFn t n m f) (h1 : fiS (fiAt m f) ≤ i) (h2 : i ≤ fiE (fiAt m f)) (hI : (mdC m).2[i]? = some I) (hl : lv (jAt t m f i)) (h11 : iOp I = 11) {o x : Nat} {r : List (Nat × Nat)} (hs : sk (mdC m).2 i = (o, x) :: r) : i < fiE (fiAt m f) ∧ lv (jAt t m f (i + 1)) ∧ jT (jAt t m f (i + 1)) = jT (jAt t m f i) ∧ endI (mdC m).2 o = i ∧ jB (jAt t m f (i + 1)) = (jB (jAt t m f i)).take ((jB (jAt t m f i)).length - 1) := by
  have hlt := h.ltE h1 h2 hI (fun w => by rw [hs] at w; cases w.2)
  have hend := h.endHit h1 h2 hI h11 hs
  have e := h.succ h1 h2 hI
  have hg := h.goodAt (i := i + 1) (by omega) (by omega)
  have hsk := (h.skj h1 h2).len
  obtain ⟨b, b1, b2, b3, b4, b5⟩ := blk_of (bad := eBad (mdC m).2 (jAt t m f i)) hl.1 hl.2.2.1
  rw [jI_11 h11] at e
  have hj := h.jo (i := i + 1) (by omega) (by omega)
  have hp := (h.skj (i := i + 1) (by omega) (by omega)).pos
  rw [e] at hg hj hp ⊢
  have hg0 := hg
  rw [b5, jG_pushG] at hg
  have hg2 : (jG (jPart (jAt t m f i)) && !(eBad (mdC m).2 (jAt t m f i) && decide (bkG b ≠ 0))) = true := hg
  rw [Bool.and_eq_true] at hg2
  have hT := part_T hl.1 b1 hg2.1
  have hT2 := part_lv hl b1 hg2.1
  have hTe : jT (jBlk (eBad (mdC m).2 (jAt t m f i)) (jAt t m f i)) = jT (jAt t m f i) := by
    rw [b5, pushG_T (by
      show (jT (jPart _)).length ≤ 4000
      have := h.T4 h1 h2
      rw [hT, List.length_take]
      omega)]
    show jT (jPart _) ++ gvL _ = _
    rw [hT]
    exact hT2.symm
  refine ⟨hlt, ⟨hj, hg0, hp, fun c hc => ?_, fun y hy => ?_⟩, hTe, hend, b2⟩
  · rw [b2] at hc
    exact hl.2.2.2.1 c (List.mem_of_mem_take hc)
  · rw [hTe] at hy
    exact hl.2.2.2.2 y hy
theorem okFn.end5 (h : okFn t n m f) (h1 : fiS (fiAt m f) ≤ i) (h2 : i ≤ fiE (fiAt m f)) (hI : (mdC m).2[i]? = some I) (hl : lv (jAt t m f i)) (h5 : iOp I = 5) : ∃ o r, sk (mdC m).2 i = (o, o) :: r ∧ endI (mdC m).2 o = nx (mdC m).2 i ∧ i < nx (mdC m).2 i ∧ nx (mdC m).2 i < fiE (fiAt m f) ∧ lv (jAt t m f (nx (mdC m).2 i + 1)) ∧ jT (jAt t m f (nx (mdC m).2 i + 1)) = jT (jAt t m f i) ∧ jB (jAt t m f (nx (mdC m).2 i + 1)) = (jB (jAt t m f i)).take ((jB (jAt t m f i)).length - 1) ∧ opC (mdC m).2 (nx (mdC m).2 i) = 11 ∧ ∃ x, sk (mdC m).2 (nx (mdC m).2 i) = (o, x) :: r := by
  obtain ⟨o, r, s1, s2⟩ := h.five h1 h2 hI h5
  have hil := get_lt hI
  have hnx := nx_eq hI (.inl h5) s1
  have hend : endI (mdC m).2 o = nx (mdC m).2 i := by
    unfold endI
    rw [hnx, opC_get hI, if_pos h5]
  have hm : (o, o) ∈ sk (mdC m).2 i := by rw [s1]; exact List.mem_cons_self
  have hlo := skO_lt (sk_O (mdC m).2 i) hm
  have hge := sk_ge h.fF.2.2.1 h1 hm
  obtain ⟨⟨I2, hI2, h24⟩, -⟩ := sk_kind (by omega) hm
  obtain ⟨⟨r1, r2, r3, x, r4⟩, -⟩ := h.reg hge (by omega) hI2 h24
  have haf := (h.aft hge (by omega) hI2 h24).1
  have hrr : r = sk (mdC m).2 o := sk_dec (s1 := []) s1
  have hblen : (jB (jAt t m f i)).length = (sk (mdC m).2 i).length + 1 := (h.skj h1 h2).len
  rw [s1, List.length_cons] at hblen
  -- the top block is o's
  obtain ⟨bt, t1, t2, t3, t4⟩ := hl.top
  obtain ⟨k, hk, hb⟩ := top_get t1
  have hbo : bkO bt = some o := by
    have := (h.skj h1 h2).top t1
    rw [s1] at this
    exact this
  obtain ⟨I3, i1, i24, i3, i4, i5, i6, i7, i8, i9, i10⟩ := h.blk h1 h2 hb hbo
  rw [hI2] at i1
  cases i1
  have e := h.succ h1 h2 hI
  have hg := h.goodAt (i := i + 1) (by omega) (by omega)
  have eI : jI t m f i I (jAt t m f i) = jElse (jAt t m f i) := by
    unfold jI jStr
    rw [h5]
    rfl
  rw [e, eI] at hg
  have hgp : jG (jPart (jAt t m f i)) = true := by
    unfold jElse at hg
    split at hg
    · exact hg
    · exact hg
  have hT2 := part_lv hl t1 hgp
  rw [i9, i8] at hT2
  rw [hend] at r1 r2 r3 r4 haf i5
  refine ⟨o, r, s1, hend, ?_, r2, ?_, ?_, ?_, r3, x, by rw [hrr]; exact r4⟩
  · refine Nat.lt_of_le_of_ne i5 fun z => ?_
    rw [← z, opC_get hI] at r3
    omega
  · have hj := h.jo (i := nx (mdC m).2 i + 1) (by omega) (by omega)
    refine ⟨hj, h.goodAt (by omega) (by omega), (h.skj (i := nx (mdC m).2 i + 1) (by omega) (by omega)).pos, fun c hc => ?_, fun y hy => ?_⟩
    · rw [haf] at hc
      have hc : c ∈ jB (jAt t m f o) := hc
      rw [← i10] at hc
      exact hl.2.2.2.1 c (List.mem_of_mem_take hc)
    · rw [haf] at hy
      have hy : y ∈ jT (jAt t m f (o + 1)) ++ gvL (iB I2) := hy
      rw [← hT2] at hy
      exact hl.2.2.2.2 y hy
  · rw [haf]
    exact hT2.symm
  · rw [haf, hk, Nat.add_sub_cancel]
    exact i10.symm
/-- block, loop, if -/
theorem okFn.in24 (h : okFn t n m f) (h1 : fiS (fiAt m f) ≤ i) (h2 : i ≤ fiE (fiAt m f)) (hI : (mdC m).2[i]? = some I) (hl : lv (jAt t m f i)) (h24 : 2 ≤ iOp I ∧ iOp I ≤ 4) : i < fiE (fiAt m f) ∧ lv (jAt t m f (i + 1)) ∧ (iOp I ≠ 4 → jT (jAt t m f (i + 1)) = jT (jAt t m f i)) ∧ (iOp I = 4 → jT (jAt t m f i) = jT (jAt t m f (i + 1)) ++ [127]) ∧ jB (jAt t m f (i + 1)) = jB (jAt t m f i) ++ [(some i, (jT (jAt t m f (i + 1))).length, iB I, false)] := by
  have hlt := h.ltE h1 h2 hI (fun w => by omega)
  have hop := h.opn h1 h2 hI h24
  have hg := h.goodAt (i := i + 1) (by omega) (by omega)
  have hj := h.jo (i := i + 1) (by omega) (by omega)
  have hp := (h.skj (i := i + 1) (by omega) (by omega)).pos
  have e := h.succ h1 h2 hI
  rw [jI_24 h24] at e
  have hJ : (iOp I ≠ 4 → jT (jAt t m f (i + 1)) = jT (jAt t m f i)) ∧ (iOp I = 4 → jT (jAt t m f i) = jT (jAt t m f (i + 1)) ++ [127]) := by
    rw [hop]
    refine ⟨fun z => ?_, fun z => ?_⟩
    · rw [if_neg z]
      rfl
    · rw [if_pos z]
      show jT (jAt t m f i) = jT (jPop 127 (jAt t m f i)).2 ++ [127]
      have gp : jG (jPop 127 (jAt t m f i)).2 = true := by
        rw [if_pos z] at e
        rw [e] at hg
        unfold jOpen at hg
        split at hg
        · exact hg
        · exact hg
      obtain ⟨T, ty, b, a1, a2, a3, a4, a5, a6, a7⟩ := hl.pop gp
      rw [a5, a2, a4 (by decide)]
      rfl
  have hTm : ∀ y ∈ jT (jAt t m f (i + 1)), isT y := fun y hy => by
    by_cases z : iOp I = 4
    · exact hl.2.2.2.2 y (by rw [hJ.2 z]; exact List.mem_append_left _ hy)
    · exact hl.2.2.2.2 y (by rw [← hJ.1 z]; exact hy)
  have hB : jB (jAt t m f (i + 1)) = jB (jAt t m f i) ++ [(some i, (jT (jAt t m f (i + 1))).length, iB I, false)] := by rw [hop]; rfl
  refine ⟨hlt, ⟨hj, hg, hp, fun c hc => ?_, hTm⟩, hJ.1, hJ.2, hB⟩
  rw [hB] at hc
  rcases List.mem_append.mp hc with w | w
  · exact hl.2.2.2.1 c w
  · rw [List.mem_singleton.mp w]
    rfl
/-- an if that is not taken -/
theorem okFn.if0 (h : okFn t n m f) (h1 : fiS (fiAt m f) ≤ i) (h2 : i ≤ fiE (fiAt m f)) (hI : (mdC m).2[i]? = some I) (hl : lv (jAt t m f i)) (h4 : iOp I = 4) : i < nx (mdC m).2 i ∧ nx (mdC m).2 i < fiE (fiAt m f) ∧ lv (jAt t m f (nx (mdC m).2 i + 1)) ∧ jT (jAt t m f (nx (mdC m).2 i + 1)) = jT (jAt t m f (i + 1)) ∧
    ((opC (mdC m).2 (nx (mdC m).2 i) = 5 ∧ sk (mdC m).2 (nx (mdC m).2 i) = (i, i) :: sk (mdC m).2 i ∧ jB (jAt t m f (nx (mdC m).2 i + 1)) = jB (jAt t m f (i + 1))) ∨ (opC (mdC m).2 (nx (mdC m).2 i) = 11 ∧ endI (mdC m).2 i = nx (mdC m).2 i ∧ (∃ x, sk (mdC m).2 (nx (mdC m).2 i) = (i, x) :: sk (mdC m).2 i) ∧ jB (jAt t m f (nx (mdC m).2 i + 1)) = jB (jAt t m f i))) := by
  have h24 : 2 ≤ iOp I ∧ iOp I ≤ 4 := by omega
  obtain ⟨l1, l2, l3, l4, l5⟩ := h.in24 h1 h2 hI hl h24
  obtain ⟨⟨r1, r2, r3, x, r4⟩, -⟩ := h.reg h1 h2 hI h24
  by_cases h5 : opC (mdC m).2 (nx (mdC m).2 i) = 5
  · obtain ⟨e1, e2, e3, e4⟩ := h.els h1 h2 hI h4 h5
    have hj := h.jo (i := nx (mdC m).2 i + 1) (by omega) (by omega)
    have eq : jAt t m f (nx (mdC m).2 i + 1) = jAt t m f (i + 1) := by
      rw [e4, ← l5, ← l2.2.1]
      rfl
    exact ⟨e1, by omega, by rw [eq]; exact l2, by rw [eq], .inl ⟨h5, e3, by rw [eq]⟩⟩
  · have hend : endI (mdC m).2 i = nx (mdC m).2 i := if_neg h5
    obtain ⟨af, ag⟩ := h.aft h1 h2 hI h24
    rw [hend] at r1 r2 r3 r4 af
    have h0 := ag (by rw [opC_get hI]; exact h4) r3
    rw [h0] at af
    have hT : jT (jAt t m f (nx (mdC m).2 i + 1)) = jT (jAt t m f (i + 1)) := by
      rw [af]
      show jT (jAt t m f (i + 1)) ++ [] = _
      rw [List.append_nil]
    have hj := h.jo (i := nx (mdC m).2 i + 1) (by omega) (by omega)
    refine ⟨r1, r2, ⟨hj, h.goodAt (by omega) (by omega), (h.skj (i := nx (mdC m).2 i + 1) (by omega) (by omega)).pos, fun c hc => ?_, fun y hy => ?_⟩, hT, .inr ⟨r3, hend, ⟨x, r4⟩, by rw [af]; rfl⟩⟩
    · rw [af] at hc
      exact hl.2.2.2.1 c hc
    · rw [hT] at hy
      exact l2.2.2.2.2 y hy
end STEP
