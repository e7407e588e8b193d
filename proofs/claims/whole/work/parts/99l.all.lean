/-! RUNNING, in the middle: each step leads to a state that goes on well, or to an end -/
section ALL
variable {t : Nat → UInt8} {n N f0 f i tk : Nat} {m : Md} {L S : List Int64} {e : Env} {fs : List Fm} {I : In}
/-- a return -/
theorem ret_lv (h : okFn t n m f) (h1 : fiS (fiAt m f) ≤ i) (h2 : i ≤ fiE (fiAt m f)) (hI : (mdC m).2[i]? = some I) (hl : lv (jAt t m f i)) (h15 : iOp I = 15) : ∃ T, jT (jAt t m f i) = T ++ gvL (gvF m f) := by
  have e := h.succ h1 h2 hI
  have hg := h.goodAt (i := i + 1) (by omega) (by omega)
  obtain ⟨v, hv⟩ := h.fb h1 h2
  have eI : jI t m f i I (jAt t m f i) = jDead (jPopG (gvF m f) (jAt t m f i)) := by
    unfold jI jRet
    rw [if_neg (by omega), if_pos (by omega), if_pos h15, hv]
    rfl
  rw [e, eI, jG_dead] at hg
  obtain ⟨T, t1, -⟩ := popG_lv hl hg
  exact ⟨T, t1⟩
theorem ty_gv {g : Nat} {T : List Nat} (hS : tyd S (T ++ gvL g)) : tyd (if g = 0 then [] else S.take 1) (gvL g) ∧ (g ≠ 0 → ∃ v r, S = v :: r) := by
  unfold gvL at hS ⊢
  by_cases z : g = 0
  · rw [if_pos z, if_pos z]
    exact ⟨trivial, fun w => absurd z w⟩
  · rw [if_neg z] at hS
    rw [if_neg z, if_neg z]
    obtain ⟨v, r, rfl, hv, hr⟩ := hS.un
    exact ⟨⟨hv, trivial⟩, fun _ => ⟨v, r, rfl⟩⟩
/-- a CALL: its function, its ARGUMENTS -/
theorem c16_lv (h : okFn t n m f) (h1 : fiS (fiAt m f) ≤ i) (h2 : i ≤ fiE (fiAt m f)) (hI : (mdC m).2[i]? = some I) (hl : lv (jAt t m f i)) (h16 : iOp I = 16) : okFn t n m (iB I) ∧ i < fiE (fiAt m f) ∧ ∃ T, jT (jAt t m f i) = T ++ agL t (tyAt m (fnTy m (iB I))) (tyAt m (fnTy m (iB I))).2.1 ∧ jT (jAt t m f (i + 1)) = T ++ gvL (gvF m (iB I)) ∧ jB (jAt t m f (i + 1)) = jB (jAt t m f i) ∧ lv (jAt t m f (i + 1)) := by
  have e := h.succ h1 h2 hI
  have hg := h.goodAt (i := i + 1) (by omega) (by omega)
  have eI : jI t m f i I (jAt t m f i) = jC16 t m (iB I) (jAt t m f i) := by
    unfold jI
    rw [if_neg (by omega), if_neg (by omega), if_pos (by omega), if_pos h16]
  rw [eI] at e
  unfold jC16 at e
  by_cases hB : iB I < (mdU m).length
  · rw [if_pos hB] at e
    rw [e] at hg
    obtain ⟨c1, T, c2, c3, c4⟩ := call_lv h.1.2.1 hl (h.T4 h1 h2) hg
    refine ⟨⟨h.1, hB⟩, h.ltE h1 h2 hI (fun w => by omega), T, c2, ?_, ?_, ?_⟩
    · rw [e, c3]
      rfl
    · rw [e, c3]
      rfl
    · rw [e]
      exact c4
  · rw [if_neg hB] at e
    rw [e] at hg
    cases hg
theorem c17_lv (h : okFn t n m f) (h1 : fiS (fiAt m f) ≤ i) (h2 : i ≤ fiE (fiAt m f)) (hI : (mdC m).2[i]? = some I) (hl : lv (jAt t m f i)) (h17 : iOp I = 17) : (mdA m).length = 1 ∧ iB I < (mdT m).length ∧ i < fiE (fiAt m f) ∧ ∃ T, jT (jAt t m f i) = (T ++ agL t (tyAt m (iB I)) (tyAt m (iB I)).2.1) ++ [127] ∧ jT (jAt t m f (i + 1)) = T ++ gvL (tyAt m (iB I)).2.2 ∧ jB (jAt t m f (i + 1)) = jB (jAt t m f i) ∧ lv (jAt t m f (i + 1)) := by
  have e := h.succ h1 h2 hI
  have hg := h.goodAt (i := i + 1) (by omega) (by omega)
  have eI : jI t m f i I (jAt t m f i) = jC17 t m (iB I) (jAt t m f i) := by
    unfold jI
    rw [if_neg (by omega), if_neg (by omega), if_pos (by omega), if_neg (by omega)]
  rw [eI] at e
  unfold jC17 at e
  rw [e] at hg
  have g1 := (jG_call hg).1
  have g2 := jG_pop g1
  obtain ⟨g3, g4⟩ := jAnd_g g2
  rw [decide_eq_true_iff] at g4
  rw [g3] at e hg g1
  obtain ⟨T0, ty, b, a1, a2, a3, a4, a5, a6, a7⟩ := hl.pop g1
  rw [a5] at e hg
  have h4 : T0.length ≤ 4000 := by
    have := h.T4 h1 h2
    rw [a2, List.length_append] at this
    omega
  obtain ⟨c1, T, c2, c3, c4⟩ := call_lv h.1.2.1 a7 h4 hg
  obtain ⟨v1, v2, -⟩ := vd_facts h.1.2.2.2.2.1
  have c2 : T0 = T ++ agL t (tyAt m (iB I)) (tyAt m (iB I)).2.1 := c2
  refine ⟨by omega, c1, h.ltE h1 h2 hI (fun w => by omega), T, by rw [a2, c2, a4 (by decide)], ?_, ?_, ?_⟩
  · rw [e, c3]
    rfl
  · rw [e, c3]
    rfl
  · rw [e]
    exact c4
/-- what stands in the TABLE -/
theorem tb_at (hok : okK t n m) (k : Nat) : atTb m k = -1 ∨ ∃ g, g < (mdU m).length ∧ atTb m k = nI g := by
  unfold atTb tbF
  obtain ⟨v1, v2, v3, v4, v5, v6, v7, v8, v9⟩ := vd_facts hok.2.2.2.2.1
  unfold vEl at v8
  rw [Bool.and_eq_true] at v8
  have key : ∀ (l : List El) (T : Nat → Int32), (∀ x ∈ l, ∀ y ∈ x.2.2, y < (mdU m).length) → (T k = -1 ∨ ∃ g, g < (mdU m).length ∧ T k = nI g) → (l.foldl tbT T k = -1 ∨ ∃ g, g < (mdU m).length ∧ l.foldl tbT T k = nI g) := by
    intro l
    induction l with
    | nil => intro T _ h; exact h
    | cons x xs ih =>
      intro T hx h
      refine ih _ (fun y hy => hx y (List.mem_cons_of_mem _ hy)) ?_
      unfold tbT
      by_cases z : eo x ≤ k ∧ k < eo x + x.2.2.length
      · rw [if_pos z]
        have hlt : k - eo x < x.2.2.length := by omega
        rw [List.getElem?_eq_getElem hlt]
        exact .inr ⟨_, hx x List.mem_cons_self _ (List.getElem_mem hlt), rfl⟩
      · rw [if_neg z]
        exact h
  refine key _ _ (fun x hx y hy => ?_) (.inl rfl)
  have := List.all_eq_true.mp v8.2 y (List.mem_flatMap.mpr ⟨x, hx, hy⟩)
  exact of_decide_eq_true this
theorem same_ag {a b : Nat} (h : sameT t m a b = true) : agL t (tyAt m a) (tyAt m a).2.1 = agL t (tyAt m b) (tyAt m b).2.1 ∧ (tyAt m a).2.2 = (tyAt m b).2.2 := by
  unfold sameT at h
  rw [Bool.and_eq_true, Bool.and_eq_true, decide_eq_true_iff, decide_eq_true_iff] at h
  obtain ⟨⟨h1, h2⟩, h3⟩ := h
  refine ⟨?_, h2⟩
  rw [← h1]
  have key : ∀ k, k ≤ (tyAt m a).2.1 → agL t (tyAt m a) k = agL t (tyAt m b) k := by
    intro k
    induction k with
    | zero => intro _; rfl
    | succ k ih =>
      intro hk
      have := List.all_eq_true.mp h3 k (List.mem_range.mpr (by omega))
      rw [decide_eq_true_iff] at this
      rw [agL, agL, ih (by omega), this]
  exact key _ (Nat.le_refl _)
theorem dop_tr {m : Md} {I : In} {L S : List Int64} {e : Env} (h : (dop m I L S e).1 ≠ 0) : (dop m I L S e).2.2.2 = e := by
  unfold dop at h ⊢
  by_cases c1 : iOp I = 1
  · rw [if_pos c1]
  rw [if_neg c1] at h ⊢
  by_cases c2 : iOp I = 26
  · rw [if_pos c2]
  rw [if_neg c2] at h ⊢
  by_cases c3 : iOp I = 27
  · rw [if_pos c3]
    split <;> rfl
  rw [if_neg c3] at h ⊢
  by_cases c4 : iOp I = 32
  · rw [if_pos c4]
  rw [if_neg c4] at h ⊢
  by_cases c5 : iOp I = 33
  · rw [if_pos c5]
  rw [if_neg c5] at h ⊢
  by_cases c6 : iOp I = 34
  · rw [if_pos c6]
  rw [if_neg c6] at h ⊢
  by_cases c7 : iOp I = 35
  · rw [if_pos c7]
  rw [if_neg c7] at h ⊢
  by_cases c8 : iOp I = 36
  · rw [if_pos c8] at h
    exact absurd rfl h
  rw [if_neg c8] at h ⊢
  by_cases c9 : iOp I ≤ 53
  · rw [if_pos c9]
    split <;> rfl
  rw [if_neg c9] at h ⊢
  by_cases c10 : iOp I ≤ 62
  · rw [if_pos c10] at h ⊢
    by_cases d : inA e ((S.drop 1).headD 0) (offI I) (wid (iOp I)) = true
    · rw [if_pos d] at h
      exact absurd rfl h
    · rw [if_neg d]
  rw [if_neg c10] at h ⊢
  by_cases c11 : iOp I = 63
  · rw [if_pos c11]
  rw [if_neg c11] at h ⊢
  by_cases c12 : iOp I = 64
  · rw [if_pos c12] at h
    split at h
    · exact absurd rfl h
    · exact absurd rfl h
  rw [if_neg c12] at h ⊢
  by_cases c13 : iOp I ≤ 66
  · rw [if_pos c13]
  rw [if_neg c13] at h ⊢
  split <;> rfl
theorem dop_L {m : Md} {I : In} {L S : List Int64} {e : Env} : (dop m I L S e).2.1.length = L.length := by
  unfold dop
  by_cases c1 : iOp I = 1
  · rw [if_pos c1]
  rw [if_neg c1]
  by_cases c2 : iOp I = 26
  · rw [if_pos c2]
  rw [if_neg c2]
  by_cases c3 : iOp I = 27
  · rw [if_pos c3]
    split <;> rfl
  rw [if_neg c3]
  by_cases c4 : iOp I = 32
  · rw [if_pos c4]
  rw [if_neg c4]
  by_cases c5 : iOp I = 33
  · rw [if_pos c5]
    exact List.length_set
  rw [if_neg c5]
  by_cases c6 : iOp I = 34
  · rw [if_pos c6]
    exact List.length_set
  rw [if_neg c6]
  by_cases c7 : iOp I = 35
  · rw [if_pos c7]
  rw [if_neg c7]
  by_cases c8 : iOp I = 36
  · rw [if_pos c8]
  rw [if_neg c8]
  by_cases c9 : iOp I ≤ 53
  · rw [if_pos c9]
    split <;> rfl
  rw [if_neg c9]
  by_cases c10 : iOp I ≤ 62
  · rw [if_pos c10]
    split <;> rfl
  rw [if_neg c10]
  by_cases c11 : iOp I = 63
  · rw [if_pos c11]
  rw [if_neg c11]
  by_cases c12 : iOp I = 64
  · rw [if_pos c12]
    split <;> rfl
  rw [if_neg c12]
  by_cases c13 : iOp I ≤ 66
  · rw [if_pos c13]
  rw [if_neg c13]
  split <;> rfl
theorem step_RI {s : St} (h : RI t n m N f0 s) : RI t n m N f0 (aS t m N s) ∨ RE m N f0 (aS t m N s) := by
  obtain ⟨f, i, L, S, fs, e, tk, rfl, b1, b2, b3, b4, b5, b6, he, htk⟩ := RI_st h
  obtain ⟨I, hI, hfI⟩ := b1.ins b3
  unfold aS
  show RI t n m N f0 (if (0 : Nat) ≠ 0 ∨ false = true then _ else match (mdC m).2[i]? with | none => _ | some I => _) ∨ RE m N f0 (if (0 : Nat) ≠ 0 ∨ false = true then _ else match (mdC m).2[i]? with | none => _ | some I => _)
  rw [if_neg (by decide), hI]
  show RI t n m N f0 (if iOp I = 11 then _ else _) ∨ RE m N f0 (if iOp I = 11 then _ else _)
  by_cases h11 : iOp I = 11
  · rw [if_pos h11]
    cases hs : sk (mdC m).2 i with
    | nil =>
      rw [if_pos rfl]
      refine RI_lv h ?_
      have hp : jG (jPart (jAt t m f i)) = true := by
        have hg := b1.goodAt (i := i + 1) (by omega) (by omega)
        have e := b1.succ b2 b3 hI
        rw [jI_11 h11] at e
        obtain ⟨b, c1, c2, c3, c4, c5⟩ := blk_of (bad := eBad (mdC m).2 (jAt t m f i)) b4.1 b4.2.2.1
        rw [e, c5, jG_pushG] at hg
        have hg2 : (jG (jPart (jAt t m f i)) && !(eBad (mdC m).2 (jAt t m f i) && decide (bkG b ≠ 0))) = true := hg
        rw [Bool.and_eq_true] at hg2
        exact hg2.1
      obtain ⟨bt, t1, t2, t3, t4⟩ := b4.top
      obtain ⟨k, hk, hb⟩ := top_get t1
      have hlen := (b1.skj b2 b3).len
      rw [hs] at hlen
      have hlen : (jB (jAt t m f i)).length = 1 := hlen
      have hk0 : k = 0 := by omega
      subst hk0
      obtain ⟨v, hv⟩ := b1.fb b2 b3
      rw [hb] at hv
      have hv := Option.some.inj hv
      have hT := part_lv b4 t1 hp
      rw [hv] at hT
      have hT : jT (jAt t m f i) = (jT (jAt t m f i)).take 0 ++ gvL (gvF m f) := hT
      rw [hT] at b6
      exact (ty_gv b6).1
    | cons a r =>
      obtain ⟨o, x⟩ := a
      rw [if_neg (by simp)]
      obtain ⟨c1, c2, c3, c4, c5⟩ := b1.end11 b2 b3 hI b4 h11 hs
      exact .inl (RI_cur h (fr_of b1 (by omega) (by omega) c2 b5 (by rw [c3]; exact b6)) rfl (Nat.le_refl _) (Nat.le_refl _) htk he)
  rw [if_neg h11]
  by_cases h5 : iOp I = 5
  · rw [if_pos h5]
    obtain ⟨o, r, c1, c2, c3, c4, c5, c6, c7, c8⟩ := b1.end5 b2 b3 hI b4 h5
    exact .inl (RI_cur h (fr_of b1 (by omega) (by omega) c5 b5 (by rw [c6]; exact b6)) rfl (Nat.le_refl _) (Nat.le_refl _) htk he)
  rw [if_neg h5]
  by_cases hN : tk = N
  · have hN2 : sK ((f, i, L, S) :: fs, [], e, tk, 0, false) = N := hN
    rw [if_pos hN2]
    exact .inr ⟨.inr (.inr rfl), he, htk, fun w => by cases w⟩
  have hN2 : ¬ sK ((f, i, L, S) :: fs, [], e, tk, 0, false) = N := hN
  rw [if_neg hN2]
  have hlt := b1.ltE b2 b3 hI (fun w => h11 w.1)
  have hk1 : tk + 1 ≤ N := by omega
  show RI t n m N f0 (aX t m (jAt t m f i) i I ((f, i + 1, L, S) :: fs, [], e, tk + 1, 0, false)) ∨ RE m N f0 (aX t m (jAt t m f i) i I ((f, i + 1, L, S) :: fs, [], e, tk + 1, 0, false))
  unfold aX
  show RI t n m N f0 (if iOp I = 0 then _ else _) ∨ RE m N f0 (if iOp I = 0 then _ else _)
  have hop := hfI.2.2.2.2.2.2
  by_cases c0 : iOp I = 0
  · rw [if_pos c0]
    exact .inr ⟨.inr (.inl (by show 1 ≠ 0; decide)), he, hk1, fun w => by cases w⟩
  rw [if_neg c0]
  by_cases c2 : iOp I = 2 ∨ iOp I = 3
  · rw [if_pos c2]
    obtain ⟨l1, l2, l3, l4, l5⟩ := b1.in24 b2 b3 hI b4 (by omega)
    exact .inl (RI_cur h (fr_of b1 (by omega) (by omega) l2 b5 (by rw [l3 (by omega)]; exact b6)) rfl (by omega) (by omega) hk1 he)
  rw [if_neg c2]
  by_cases c4 : iOp I = 4
  · rw [if_pos c4]
    obtain ⟨l1, l2, l3, l4, l5⟩ := b1.in24 b2 b3 hI b4 (by omega)
    obtain ⟨z1, z2, z3, z4, -⟩ := b1.if0 b2 b3 hI b4 c4
    rw [l4 c4] at b6
    obtain ⟨c, r, rfl, hc, hr⟩ := b6.un
    show RI t n m N f0 (if c.toInt32 = 0 then _ else _) ∨ RE m N f0 (if c.toInt32 = 0 then _ else _)
    by_cases hc0 : c.toInt32 = 0
    · rw [if_pos hc0]
      exact .inl (RI_cur (S2 := r) (tk2 := tk + 1) h (fr_of b1 (by omega) (by omega) z3 b5 (by rw [z4]; exact hr)) rfl (by rw [List.length_cons]; omega) (by omega) hk1 he)
    · rw [if_neg hc0]
      exact .inl (RI_cur (S2 := r) (tk2 := tk + 1) h (fr_of b1 (by omega) (by omega) l2 b5 hr) rfl (by rw [List.length_cons]; omega) (by omega) hk1 he)
  rw [if_neg c4]
  by_cases c12 : iOp I = 12
  · rw [if_pos c12]
    obtain ⟨J1, T, due, d1, d2, d3, d4, d5, d6, d7, d8, d9, d10⟩ := br_lv b1 b2 b3 hI b4 (.inl c12)
    have hJ : J1 = jAt t m f i := by rw [d1, c12]; rfl
    subst hJ
    obtain ⟨lab, ls, hls⟩ := List.exists_cons_of_ne_nil d9
    obtain ⟨b, e1, e2⟩ := d8 lab (by rw [hls]; exact List.mem_cons_self)
    have hbm : b ∈ jB (jAt t m f i) := by
      obtain ⟨k, -, hk, -⟩ := jIx_some e1
      exact List.mem_of_getElem? hk
    rw [hls]
    exact RI_br h rfl d5 d6 (d7 b hbm) b6 e1 e2 (by omega) (by omega) hk1
  rw [if_neg c12]
  by_cases c13 : iOp I = 13
  · rw [if_pos c13]
    obtain ⟨J1, T, due, d1, d2, d3, d4, d5, d6, d7, d8, d9, d10⟩ := br_lv b1 b2 b3 hI b4 (.inr (.inl c13))
    have hJ : J1 = (jPop 127 (jAt t m f i)).2 := by rw [d1, c13]; rfl
    obtain ⟨lab, ls, hls⟩ := List.exists_cons_of_ne_nil d9
    obtain ⟨b, e1, e2⟩ := d8 lab (by rw [hls]; exact List.mem_cons_self)
    have hbm : b ∈ jB J1 := by
      obtain ⟨k, -, hk, -⟩ := jIx_some e1
      exact List.mem_of_getElem? hk
    rw [d4 (by omega)] at b6
    obtain ⟨c, r, rfl, hc, hr⟩ := b6.un
    rw [hls, ← hJ]
    show RI t n m N f0 (if c.toInt32 = 0 then _ else _) ∨ RE m N f0 (if c.toInt32 = 0 then _ else _)
    by_cases hc0 : c.toInt32 = 0
    · rw [if_pos hc0]
      exact .inl (RI_cur (S2 := r) (tk2 := tk + 1) h (fr_of b1 (by omega) (by omega) (by rw [d10 c13]; exact d2) b5 (by rw [d10 c13]; exact hr)) rfl (by rw [List.length_cons]; omega) (by omega) hk1 he)
    · rw [if_neg hc0]
      exact RI_br (S2 := r) (tk2 := tk + 1) h d3 d5 d6 (d7 b hbm) hr e1 e2 (by rw [List.length_cons]; omega) (by omega) hk1
  rw [if_neg c13]
  by_cases c14 : iOp I = 14
  · rw [if_pos c14]
    obtain ⟨J1, T, due, d1, d2, d3, d4, d5, d6, d7, d8, d9, d10⟩ := br_lv b1 b2 b3 hI b4 (.inr (.inr c14))
    have hJ : J1 = (jPop 127 (jAt t m f i)).2 := by rw [d1, c14]; rfl
    rw [d4 (by omega)] at b6
    obtain ⟨c, r, rfl, hc, hr⟩ := b6.un
    have hlen := hfI.2.2.2.1 c14
    have hlt2 : min (lo32 c) (iS I) < (iL I).length := by omega
    have hg : (iL I)[min (lo32 c) (iS I)]? = some (iL I)[min (lo32 c) (iS I)] := List.getElem?_eq_getElem hlt2
    obtain ⟨b, e1, e2⟩ := d8 _ (List.getElem_mem hlt2)
    have hbm : b ∈ jB J1 := by
      obtain ⟨k, -, hk, -⟩ := jIx_some e1
      exact List.mem_of_getElem? hk
    rw [← hJ]
    show RI t n m N f0 (aBr m J1 (((iL I)[min (lo32 c) (iS I)]?).getD 0) _) ∨ RE m N f0 (aBr m J1 (((iL I)[min (lo32 c) (iS I)]?).getD 0) _)
    rw [hg]
    exact RI_br (S2 := r) (tk2 := tk + 1) h d3 d5 d6 (d7 b hbm) hr e1 e2 (by rw [List.length_cons]; omega) (by omega) hk1
  rw [if_neg c14]
  by_cases c15 : iOp I = 15
  · rw [if_pos c15]
    obtain ⟨T, hT⟩ := ret_lv b1 b2 b3 hI b4 c15
    have b6' := b6
    rw [hT] at b6
    have hr := (ty_gv b6).1
    -- the STEP is counted first
    have h' : RI t n m N f0 ((f, i, L, S) :: fs, [], e, tk + 1, 0, false) := RI_cur h (fr_of b1 b2 b3 b4 b5 b6') rfl (by omega) (by omega) hk1 he
    have := RI_lv h' hr
    cases fs with
    | nil => exact this
    | cons y ys => exact this
  rw [if_neg c15]
  by_cases c16 : iOp I = 16
  · rw [if_pos c16]
    obtain ⟨g1, g2, T, g3, g4, g5, g6⟩ := c16_lv b1 b2 b3 hI b4 c16
    rw [g3] at b6
    have hn := new_lo g1 b6
    exact RI_en h g1 (fr_of2 b1 (by omega) (by omega) g6 b5 g4 hn.2) b6 hk1
  rw [if_neg c16]
  by_cases c17 : iOp I = 17
  · rw [if_pos c17]
    obtain ⟨g0, g1, g2, T, g3, g4, g5, g6⟩ := c17_lv b1 b2 b3 hI b4 c17
    have b6' := b6
    rw [g3] at b6
    obtain ⟨c, r, rfl, hc, hr⟩ := b6.un
    show RI t n m N f0 (if tbN m ≤ lo32 c then _ else _) ∨ RE m N f0 (if tbN m ≤ lo32 c then _ else _)
    by_cases q1 : tbN m ≤ lo32 c
    · rw [if_pos q1]
      exact .inr ⟨.inr (.inl (by show 5 ≠ 0; decide)), he, hk1, fun w => by cases w⟩
    rw [if_neg q1]
    by_cases q2 : atTb m (lo32 c) < 0
    · have q2' : atTb m (lo32 ((c :: r).headD 0)) < 0 := q2
      rw [if_pos q2']
      exact .inr ⟨.inr (.inl (by show 6 ≠ 0; decide)), he, hk1, fun w => by cases w⟩
    have q2' : ¬ atTb m (lo32 ((c :: r).headD 0)) < 0 := q2
    rw [if_neg q2']
    show RI t n m N f0 (if sameT t m (iB I) (fnTy m (atTb m (lo32 c)).toNatClampNeg) = false then _ else _) ∨ RE m N f0 (if sameT t m (iB I) (fnTy m (atTb m (lo32 c)).toNatClampNeg) = false then _ else _)
    by_cases q3 : sameT t m (iB I) (fnTy m (atTb m (lo32 c)).toNatClampNeg) = false
    · rw [if_pos q3]
      exact .inr ⟨.inr (.inl (by show 7 ≠ 0; decide)), he, hk1, fun w => by cases w⟩
    rw [if_neg q3]
    have q3 : sameT t m (iB I) (fnTy m (atTb m (lo32 c)).toNatClampNeg) = true := by
      cases hh : sameT t m (iB I) (fnTy m (atTb m (lo32 c)).toNatClampNeg)
      · exact absurd hh q3
      · rfl
    have hl2 : (mdU m).length ≤ 60 := b1.1.1.2.1
    rcases tb_at b1.1 (lo32 c) with w | ⟨g, w1, w2⟩
    · rw [w] at q2
      exact absurd (by decide) q2
    · have hgc : (atTb m (lo32 c)).toNatClampNeg = g := by rw [w2, nI_clamp (by omega)]
      have hgc' : (atTb m (lo32 ((c :: r).headD 0))).toNatClampNeg = g := hgc
      rw [hgc] at q3
      rw [hgc']
      obtain ⟨p1, p2⟩ := same_ag q3
      rw [p1] at hr
      have hg : okFn t n m g := ⟨b1.1, w1⟩
      have hn := new_lo hg hr
      have h' : RI t n m N f0 ((f, i, L, c :: r) :: fs, [], e, tk, 0, false) := h
      -- the CALL's index is taken first
      obtain ⟨a1, a2, a3, a4, a5, a6, a7, a8, a9, a10⟩ := h'
      have a3 : hOk tk ((f, i, L, c :: r) :: fs) := a3
      have a10 : botF ((f, i, L, c :: r) :: fs) = some f0 := a10
      have hfi : frOk t n m f (i + 1) L (r.drop (tyAt m (fnTy m g)).2.1) (gvL (gvF m g)) := fr_of2 b1 (by omega) (by omega) g6 b5 (by rw [g4, p2]; rfl) hn.2
      -- as RI_en, the operands being one less
      unfold aEn
      show RI t n m N f0 (if fs.length + 1 = 64 then _ else _) ∨ RE m N f0 (if fs.length + 1 = 64 then _ else _)
      by_cases z : fs.length + 1 = 64
      · rw [if_pos z]
        exact .inr ⟨.inr (.inl (by show 8 ≠ 0; decide)), a6, hk1, fun w => by cases w⟩
      · rw [if_neg z]
        have hl0 : (fiAt m g).1.length ≤ 50 := (hg.F.2.2.2 _ (List.mem_of_getElem? (fiAt_get hg.fl))).1
        have hlen := hr.len
        rw [List.length_append, agL_len] at hlen
        have h9 : ((c :: r) ++ (L.reverse ++ fl fs)).length ≤ 8 + tk + 50 * (fs.length + 1) := a3.1
        rw [List.length_append, List.length_cons] at h9
        have h64 : fs.length + 1 ≤ 64 := a5
        have hE := hg.fF.1
        have hs : hSus (tk + 1) fs := a3.2.mono (by omega)
        show RI t n m N f0 (newF m g r :: (f, i + 1, L, r.drop (tyAt m (fnTy m g)).2.1) :: fs, [], e, tk + 1, 0, false) ∨ _
        refine .inl ⟨fun w => (by cases w), ⟨?_, hfi, a2.2⟩, ⟨?_, ?_, hs⟩, rfl, by show fs.length + 1 + 1 ≤ 64; omega, a6, hk1, rfl, rfl, by rw [← a10]; show botF (newF m g r :: (f, i + 1, L, r.drop (tyAt m (fnTy m g)).2.1) :: fs) = _; rw [botF_cons]; exact botF_eq rfl⟩
        · refine ⟨hg, Nat.le_refl _, hE, ?_, hn.1, [], ?_, trivial⟩
          · have h0 := hg.jo (Nat.le_refl _) hE
            have e0 := hg.st0
            show lv (jAt t m g (fiS (fiAt m g)))
            rw [e0] at h0 ⊢
            refine ⟨h0, rfl, Nat.zero_lt_one, fun b hb => ?_, fun x hx => by cases hx⟩
            rw [List.mem_singleton.mp hb]
            rfl
          · show jT (jAt t m g (fiS (fiAt m g))) = _
            rw [hg.st0]
            rfl
        · show ([] ++ (((r.take (tyAt m (fnTy m g)).2.1).reverse ++ List.replicate (fiAt m g).1.length 0).reverse ++ (r.drop (tyAt m (fnTy m g)).2.1 ++ (L.reverse ++ fl fs)))).length ≤ 8 + (tk + 1) + 50 * (fs.length + 1 + 1)
          rw [List.nil_append, List.length_append, List.length_reverse, List.length_append, List.length_reverse, List.length_take, List.length_replicate, List.length_append, List.length_drop]
          omega
        · show (r.drop (tyAt m (fnTy m g)).2.1 ++ (L.reverse ++ fl fs)).length + 1 ≤ 8 + (tk + 1) + 50 * (fs.length + 1)
          rw [List.length_append, List.length_drop]
          omega
  rw [if_neg c17]
  have hd : iOp I = 1 ∨ 18 ≤ iOp I := by
    obtain ⟨q, u1, -⟩ := b1.rd.2 i I b2 b3 hI
    obtain ⟨hops, hlg⟩ := pI_ops u1
    unfold lgl noOp isNum memL at hlg
    omega
  obtain ⟨d1, d2, d3, d4⟩ := data_I (e := e) b1 b2 b3 hI hd b4 b6 b5 he
  by_cases htr : (dop m I L S e).1 = 0
  · obtain ⟨d5, d6, d7, d8⟩ := d4 htr
    have hlS := b6.len
    have := RI_cur (i2 := i + 1) (tk2 := tk + 1) h (fr_of (S2 := (dop m I L S e).2.2.1) b1 (by omega) (by omega) d2 d6 d5) dop_L (by omega) (by omega) hk1 d7
    refine .inl ?_
    show RI t n m N f0 (_ :: fs, [], (dop m I L S e).2.2.2, tk + 1, (dop m I L S e).1, false)
    rw [htr]
    exact this
  · refine .inr ⟨.inr (.inl htr), ?_, hk1, fun w => by cases w⟩
    show evOk m (dop m I L S e).2.2.2
    rw [dop_tr htr]
    exact he
end ALL
