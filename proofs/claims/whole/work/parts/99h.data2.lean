/-! RUNNING, in the middle: an INSTRUCTION that only changes values keeps their types -/
section DATA2
variable {t : Nat → UInt8} {n f : Nat} {m : Md} {J K : JS} {S L : List Int64} {e : Env} {I : In}
theorem acc_T {op : Nat} : isT (acc op) := by
  unfold acc
  split
  · exact .inl rfl
  · exact .inr rfl
theorem eff_pop0' {as : List Nat} {due : Nat} (h : eff J as K []) (hd : isT due) (hg : jG (jPop due K).2 = true) : (jPop due K).1 = due := by
  obtain ⟨T, h1, h2, h3⟩ := h
  obtain ⟨T2, ty, b, a1, a2, a3, a4, a5, a6, a7⟩ := h3.pop hg
  rw [a5]
  exact a4 (isT_ne hd)
theorem opSh_no {c : Nat} (h : iOp I = c) (hc : c = 1 ∨ (65 ≤ c ∧ c ≤ 66)) : opSh m f I S := by
  unfold opSh
  rw [h]
  exact ⟨fun z => absurd z (by omega), fun z => absurd z (by omega), fun z => absurd z (by omega), fun z => absurd z (by omega), fun z => absurd z (by omega), fun z => absurd z (by omega), fun z => absurd z (by omega), fun z => absurd z (by omega), fun z => absurd z (by omega), fun z => absurd z (by omega), fun z => absurd z (by omega), fun z => absurd z (by omega), fun z => absurd z (by omega)⟩
theorem loOk_set {k : Nat} {v : Int64} (h : loOk t m f L) (hv : can (loTy t m f k) v) : loOk t m f (L.set k v) := by
  refine ⟨by rw [List.length_set]; exact h.1, fun j w hj => ?_⟩
  rw [List.getElem?_set] at hj
  split at hj
  next hjk =>
    split at hj
    · cases hj
      subst hjk
      exact hv
    · cases hj
  next hjk => exact h.2 j w hj
theorem data_1 (h1 : iOp I = 1) (hl : lv J) (hK : K = jI t m f 0 I J) (hS : tyd S (jT J)) (hL : loOk t m f L) (hG : evOk m e) : opSh m f I S ∧ tyAf t m f J J (dop m I L S e) := by
  refine ⟨opSh_no h1 (.inl rfl), hl, rfl, fun _ => ?_⟩
  unfold dop
  rw [if_pos h1]
  have := hS.len
  exact ⟨hS, hL, hG, by show S.length ≤ _; omega⟩
theorem data_26 (h1 : iOp I = 26) (hl : lv J) (hK : K = (jPop 0 J).2) (hg : jG K = true) (hS : tyd S (jT J)) (hL : loOk t m f L) (hG : evOk m e) : opSh m f I S ∧ tyAf t m f J K (dop m I L S e) := by
  subst hK
  obtain ⟨ty, h2, h3, he⟩ := eff_pop0 hl.eff0 hg
  obtain ⟨T, s1, s2, s3, s4⟩ := eff_sp he hS
  obtain ⟨v, r, rfl, hv, hr⟩ := s1.un
  have hlen := hS.len
  rw [List.length_cons] at hlen
  unfold opSh tyAf dop
  rw [h1]
  refine ⟨⟨fun _ => ⟨v, r, rfl⟩, fun z => absurd z (by omega), fun z => absurd z (by omega), fun z => absurd z (by omega), fun z => absurd z (by omega), fun z => absurd z (by omega), fun z => absurd z (by omega), fun z => absurd z (by omega), fun z => absurd z (by omega), fun z => absurd z (by omega), fun z => absurd z (by omega), fun z => absurd z (by omega), fun z => absurd z (by omega)⟩, s4, s3, fun _ => ⟨?_, hL, hG, ?_⟩⟩
  · rw [s2, List.append_nil]
    exact hr
  · show r.length ≤ _
    omega
theorem data_27 (h1 : iOp I = 27) (hl : lv J) (h4 : (jT J).length ≤ 4000) (hK : K = jSel J) (hg : jG K = true) (hS : tyd S (jT J)) (hL : loOk t m f L) (hG : evOk m e) : opSh m f I S ∧ tyAf t m f J K (dop m I L S e) := by
  subst hK
  unfold jSel at hg ⊢
  rw [jG_push] at hg
  have g2 := jG_pop hg
  have g1 := jG_pop g2
  have e1 := eff_pop1 hl.eff0 (by decide : (127 : Nat) ≠ 0) g1
  obtain ⟨ty, h2, h3, e2⟩ := eff_pop0 e1 g2
  rw [h3] at hg ⊢
  have e3 := eff_pop1 e2 (isT_ne h2) hg
  have e4 := eff_pop0' e2 h2 hg
  rw [e4]
  have e5 := eff_push e3 h2 h4
  obtain ⟨T, s1, s2, s3, s4⟩ := eff_sp e5 hS
  rw [show T ++ [ty, ty, 127] = (T ++ [ty, ty]) ++ [127] by rw [List.append_assoc]; rfl] at s1
  obtain ⟨c, r, rfl, hc, s1⟩ := s1.un
  obtain ⟨b, a, r, rfl, hb, ha, hr⟩ := s1.un2
  have hlen := hS.len
  rw [List.length_cons, List.length_cons, List.length_cons] at hlen
  unfold opSh tyAf dop
  rw [h1]
  refine ⟨⟨fun z => absurd z (by omega), fun _ => ⟨c, b, a, r, rfl⟩, fun z => absurd z (by omega), fun z => absurd z (by omega), fun z => absurd z (by omega), fun z => absurd z (by omega), fun z => absurd z (by omega), fun z => absurd z (by omega), fun z => absurd z (by omega), fun z => absurd z (by omega), fun z => absurd z (by omega), fun z => absurd z (by omega), fun z => absurd z (by omega)⟩, s4, s3, fun _ => ⟨?_, hL, hG, ?_⟩⟩
  · rw [s2]
    show tyd ((if c.toInt32 = 0 then b else a) :: r) _
    split
    · exact hr.snoc hb
    · exact hr.snoc ha
  · show (_ :: r).length ≤ _
    rw [List.length_cons]
    omega
theorem data_lo (h : okFn t n m f) (h1 : 32 ≤ iOp I ∧ iOp I ≤ 34) (hl : lv J) (h4 : (jT J).length ≤ 4000) (hK : K = jLoc t m f (iOp I) (iB I) J) (hg : jG K = true) (hS : tyd S (jT J)) (hL : loOk t m f L) (hG : evOk m e) : opSh m f I S ∧ tyAf t m f J K (dop m I L S e) := by
  subst hK
  unfold jLoc at hg ⊢
  by_cases hB : iB I < loN m f
  · rw [if_pos hB] at hg ⊢
    have hT := loTy_T h.1.2.1 h.F hB
    have hlen := hS.len
    have hlt : iB I < L.length := by rw [hL.1]; exact hB
    have hk : L[iB I]? = some L[iB I] := List.getElem?_eq_getElem hlt
    unfold jSet at hg ⊢
    unfold opSh tyAf dop
    have : iOp I = 32 ∨ iOp I = 33 ∨ iOp I = 34 := by omega
    rcases this with hc | hc | hc
    · rw [hc] at hg ⊢
      rw [if_pos rfl] at hg ⊢
      obtain ⟨T, s1, s2, s3, s4⟩ := eff_sp (eff_push hl.eff0 hT h4) hS
      rw [List.append_nil] at s1
      refine ⟨⟨fun z => absurd z (by omega), fun z => absurd z (by omega), fun _ => hB, fun z => absurd z (by omega), fun z => absurd z (by omega), fun z => absurd z (by omega), fun z => absurd z (by omega), fun z => absurd z (by omega), fun z => absurd z (by omega), fun z => absurd z (by omega), fun z => absurd z (by omega), fun z => absurd z (by omega), fun z => absurd z (by omega)⟩, s4, s3, fun _ => ⟨?_, hL, hG, ?_⟩⟩
      · rw [s2]
        show tyd ((L[iB I]?).getD 0 :: S) _
        rw [hk]
        exact s1.snoc (hL.2 _ _ hk)
      · show (_ :: S).length ≤ _
        rw [List.length_cons]
        omega
    · rw [hc] at hg ⊢
      rw [if_neg (by decide), if_pos rfl] at hg ⊢
      obtain ⟨T, s1, s2, s3, s4⟩ := eff_sp (eff_pop1 hl.eff0 (isT_ne hT) hg) hS
      obtain ⟨v, r, rfl, hv, hr⟩ := s1.un
      rw [List.length_cons] at hlen
      refine ⟨⟨fun z => absurd z (by omega), fun z => absurd z (by omega), fun _ => hB, fun _ => ⟨v, r, rfl⟩, fun z => absurd z (by omega), fun z => absurd z (by omega), fun z => absurd z (by omega), fun z => absurd z (by omega), fun z => absurd z (by omega), fun z => absurd z (by omega), fun z => absurd z (by omega), fun z => absurd z (by omega), fun z => absurd z (by omega)⟩, s4, s3, fun _ => ⟨?_, loOk_set hL hv, hG, ?_⟩⟩
      · rw [s2, List.append_nil]
        exact hr
      · show r.length ≤ _
        omega
    · rw [hc] at hg ⊢
      rw [if_neg (by decide), if_neg (by decide)] at hg ⊢
      rw [jG_push] at hg
      obtain ⟨T, s1, s2, s3, s4⟩ := eff_sp (eff_push (eff_pop1 hl.eff0 (isT_ne hT) hg) hT h4) hS
      obtain ⟨v, r, rfl, hv, hr⟩ := s1.un
      rw [List.length_cons] at hlen
      refine ⟨⟨fun z => absurd z (by omega), fun z => absurd z (by omega), fun _ => hB, fun _ => ⟨v, r, rfl⟩, fun z => absurd z (by omega), fun z => absurd z (by omega), fun z => absurd z (by omega), fun z => absurd z (by omega), fun z => absurd z (by omega), fun z => absurd z (by omega), fun z => absurd z (by omega), fun z => absurd z (by omega), fun z => absurd z (by omega)⟩, s4, s3, fun _ => ⟨?_, loOk_set hL hv, hG, ?_⟩⟩
      · rw [s2]
        exact hr.snoc hv
      · show (v :: r).length ≤ _
        rw [List.length_cons]
        omega
  · rw [if_neg hB] at hg
    cases hg
theorem data_gl (hf : fcM t n m) (h1 : 35 ≤ iOp I ∧ iOp I ≤ 36) (hl : lv J) (h4 : (jT J).length ≤ 4000) (hK : K = jGlo m (iOp I) (iB I) J) (hg : jG K = true) (hS : tyd S (jT J)) (hL : loOk t m f L) (hG : evOk m e) : opSh m f I S ∧ tyAf t m f J K (dop m I L S e) := by
  subst hK
  unfold jGlo at hg ⊢
  by_cases hB : iB I < (mdG m).length
  · rw [if_pos hB] at hg ⊢
    have hgl := glAt_get hB
    have hT := (hf.2.2.2.2.1 _ (List.mem_of_getElem? hgl)).1
    have hlen := hS.len
    unfold opSh tyAf dop
    have : iOp I = 35 ∨ iOp I = 36 := by omega
    rcases this with hc | hc
    · rw [hc] at hg ⊢
      rw [if_pos rfl] at hg ⊢
      obtain ⟨T, s1, s2, s3, s4⟩ := eff_sp (eff_push hl.eff0 hT h4) hS
      rw [List.append_nil] at s1
      refine ⟨⟨fun z => absurd z (by omega), fun z => absurd z (by omega), fun z => absurd z (by omega), fun z => absurd z (by omega), fun _ => hB, fun z => absurd z (by omega), fun z => absurd z (by omega), fun z => absurd z (by omega), fun z => absurd z (by omega), fun z => absurd z (by omega), fun z => absurd z (by omega), fun z => absurd z (by omega), fun z => absurd z (by omega)⟩, s4, s3, fun _ => ⟨?_, hL, hG, ?_⟩⟩
      · rw [s2]
        exact s1.snoc (hG.1 _ _ hgl)
      · show (_ :: S).length ≤ _
        rw [List.length_cons]
        omega
    · rw [hc] at hg ⊢
      rw [if_neg (by decide)] at hg ⊢
      obtain ⟨g1, g2⟩ := jAnd_g (jG_pop hg)
      rw [g1] at hg ⊢
      obtain ⟨T, s1, s2, s3, s4⟩ := eff_sp (eff_pop1 hl.eff0 (isT_ne hT) hg) hS
      obtain ⟨v, r, rfl, hv, hr⟩ := s1.un
      rw [List.length_cons] at hlen
      refine ⟨⟨fun z => absurd z (by omega), fun z => absurd z (by omega), fun z => absurd z (by omega), fun z => absurd z (by omega), fun _ => hB, fun _ => ⟨v, r, rfl⟩, fun z => absurd z (by omega), fun z => absurd z (by omega), fun z => absurd z (by omega), fun z => absurd z (by omega), fun z => absurd z (by omega), fun z => absurd z (by omega), fun z => absurd z (by omega)⟩, s4, s3, fun _ => ⟨?_, hL, ⟨fun k x hx => ?_, hG.2⟩, ?_⟩⟩
      · rw [s2, List.append_nil]
        exact hr
      · show can x.1 (updG (eG e) (iB I) v k)
        unfold updG
        by_cases z : k = iB I
        · rw [if_pos z]
          subst z
          rw [hgl] at hx
          cases hx
          exact hv
        · rw [if_neg z]
          exact hG.1 k x hx
      · show r.length ≤ _
        omega
  · rw [if_neg hB] at hg
    cases hg
theorem data_me (hM1 : (mdM m).length ≤ 1) (hmx : mxP m ≤ 2) (h1 : memL (iOp I) ∨ 63 ≤ iOp I ∧ iOp I ≤ 64) (hl : lv J) (h4 : (jT J).length ≤ 4000) (hK : K = jMem m (iOp I) (iS I) J) (hg : jG K = true) (hS : tyd S (jT J)) (hL : loOk t m f L) (hG : evOk m e) : opSh m f I S ∧ tyAf t m f J K (dop m I L S e) := by
  subst hK
  unfold memL at h1
  have hlen := hS.len
  have t7 : isT 127 := .inl rfl
  unfold jMem at hg ⊢
  by_cases c1 : iOp I = 63
  · rw [if_pos c1] at hg ⊢
    rw [jG_push] at hg
    obtain ⟨g1, g2⟩ := jAnd_g hg
    rw [decide_eq_true_iff] at g2
    rw [g1]
    obtain ⟨T, s1, s2, s3, s4⟩ := eff_sp (eff_push hl.eff0 t7 h4) hS
    rw [List.append_nil] at s1
    unfold opSh tyAf dop
    rw [c1]
    refine ⟨⟨fun z => absurd z (by omega), fun z => absurd z (by omega), fun z => absurd z (by omega), fun z => absurd z (by omega), fun z => absurd z (by omega), fun z => absurd z (by omega), fun z => absurd z (by omega), fun z => absurd z (by omega), fun z => absurd z (by omega), fun _ => by omega, fun z => absurd z (by omega), fun z => absurd z (by omega), fun z => absurd z (by omega)⟩, s4, s3, fun _ => ⟨?_, hL, hG, ?_⟩⟩
    · rw [s2]
      exact s1.snoc fun _ => c32_n (by have := hG.2; omega)
    · show (_ :: S).length ≤ _
      rw [List.length_cons]
      omega
  rw [if_neg c1] at hg ⊢
  by_cases c2 : iOp I = 64
  · rw [if_pos c2] at hg ⊢
    rw [jG_push] at hg
    obtain ⟨g1, g2⟩ := jAnd_g (jG_pop hg)
    rw [decide_eq_true_iff] at g2
    rw [g1] at hg ⊢
    obtain ⟨T, s1, s2, s3, s4⟩ := eff_sp (eff_push (eff_pop1 hl.eff0 (isT_ne t7) hg) t7 h4) hS
    obtain ⟨v, r, rfl, hv, hr⟩ := s1.un
    rw [List.length_cons] at hlen
    unfold opSh tyAf dop
    rw [c2]
    refine ⟨⟨fun z => absurd z (by omega), fun z => absurd z (by omega), fun z => absurd z (by omega), fun z => absurd z (by omega), fun z => absurd z (by omega), fun z => absurd z (by omega), fun z => absurd z (by omega), fun z => absurd z (by omega), fun _ => ⟨v, r, rfl⟩, fun _ => by omega, fun z => absurd z (by omega), fun z => absurd z (by omega), fun z => absurd z (by omega)⟩, s4, s3, ?_⟩
    rw [if_neg (by decide), if_neg (by decide), if_neg (by decide), if_neg (by decide), if_neg (by decide), if_neg (by decide), if_neg (by decide), if_neg (by decide), if_neg (by decide), if_neg (by decide), if_neg (by decide), if_pos rfl]
    have hp := hG.2
    by_cases hgr : eP e + lo32 ((v :: r).headD 0) ≤ mxP m
    · rw [if_pos hgr]
      refine fun _ => ⟨?_, hL, ⟨hG.1, Nat.le_trans hgr hmx⟩, ?_⟩
      · rw [s2]
        exact hr.snoc fun _ => c32_n (by omega)
      · show (_ :: r).length ≤ _
        rw [List.length_cons]
        omega
    · rw [if_neg hgr]
      refine fun _ => ⟨?_, hL, hG, ?_⟩
      · rw [s2]
        exact hr.snoc fun _ => c32_i (-1)
      · show (_ :: r).length ≤ _
        rw [List.length_cons]
        omega
  rw [if_neg c2] at hg ⊢
  unfold jMe2 at hg ⊢
  by_cases c3 : iOp I < 54
  · rw [if_pos c3] at hg ⊢
    rw [jG_push] at hg
    obtain ⟨g1, -⟩ := jAnd_g (jG_pop hg)
    rw [g1] at hg ⊢
    obtain ⟨g3, g4⟩ := jAnd_g (jG_pop hg)
    rw [decide_eq_true_iff] at g4
    rw [g3] at hg ⊢
    obtain ⟨T, s1, s2, s3, s4⟩ := eff_sp (eff_push (eff_pop1 hl.eff0 (isT_ne t7) hg) acc_T h4) hS
    obtain ⟨v, r, rfl, hv, hr⟩ := s1.un
    rw [List.length_cons] at hlen
    unfold opSh tyAf dop
    refine ⟨⟨fun z => absurd z (by omega), fun z => absurd z (by omega), fun z => absurd z (by omega), fun z => absurd z (by omega), fun z => absurd z (by omega), fun z => absurd z (by omega), fun _ => ⟨v, r, rfl⟩, fun z => absurd z (by omega), fun z => absurd z (by omega), fun _ => by omega, fun z => absurd z (by omega), fun z => absurd z (by omega), fun z => absurd z (by omega)⟩, s4, s3, ?_⟩
    rw [if_neg (by omega), if_neg (by omega), if_neg (by omega), if_neg (by omega), if_neg (by omega), if_neg (by omega), if_neg (by omega), if_neg (by omega), if_pos (by omega)]
    by_cases hin : inA e ((v :: r).headD 0) (offI I) (wid (iOp I)) = true
    · rw [if_pos hin]
      refine fun _ => ⟨?_, hL, hG, ?_⟩
      · rw [s2]
        refine hr.snoc fun z => ld_c32 _ _ ?_
        unfold acc at z
        split at z
        next w => omega
        · cases z
      · show (_ :: r).length ≤ _
        rw [List.length_cons]
        omega
    · rw [if_neg hin]
      exact fun z => absurd (show 4 = 0 from z) (by decide)
  · rw [if_neg c3] at hg ⊢
    obtain ⟨g1, -⟩ := jAnd_g (jG_pop (jG_pop hg))
    rw [g1] at hg ⊢
    obtain ⟨g3, g4⟩ := jAnd_g (jG_pop (jG_pop hg))
    rw [decide_eq_true_iff] at g4
    rw [g3] at hg ⊢
    obtain ⟨T, s1, s2, s3, s4⟩ := eff_sp (eff_pop1 (eff_pop1 hl.eff0 (isT_ne acc_T) (jG_pop hg)) (isT_ne t7) hg) hS
    obtain ⟨v, x, r, rfl, hv, hx, hr⟩ := s1.un2
    rw [List.length_cons, List.length_cons] at hlen
    unfold opSh tyAf dop
    refine ⟨⟨fun z => absurd z (by omega), fun z => absurd z (by omega), fun z => absurd z (by omega), fun z => absurd z (by omega), fun z => absurd z (by omega), fun z => absurd z (by omega), fun z => absurd z (by omega), fun _ => ⟨v, x, r, rfl⟩, fun z => absurd z (by omega), fun _ => by omega, fun z => absurd z (by omega), fun z => absurd z (by omega), fun z => absurd z (by omega)⟩, s4, s3, ?_⟩
    rw [if_neg (by omega), if_neg (by omega), if_neg (by omega), if_neg (by omega), if_neg (by omega), if_neg (by omega), if_neg (by omega), if_neg (by omega), if_neg (by omega), if_pos (by omega)]
    by_cases hin : inA e (((v :: x :: r).drop 1).headD 0) (offI I) (wid (iOp I)) = true
    · rw [if_pos hin]
      refine fun _ => ⟨?_, hL, hG, ?_⟩
      · rw [s2, List.append_nil]
        exact hr
      · show r.length ≤ _
        omega
    · rw [if_neg hin]
      exact fun z => absurd (show 4 = 0 from z) (by decide)
theorem data_co (h1 : 65 ≤ iOp I ∧ iOp I ≤ 66) (hc : iOp I = 65 → c32 (iA I)) (hl : lv J) (h4 : (jT J).length ≤ 4000) (hK : K = jPush (if iOp I = 65 then 127 else 126) J) (hS : tyd S (jT J)) (hL : loOk t m f L) (hG : evOk m e) : opSh m f I S ∧ tyAf t m f J K (dop m I L S e) := by
  subst hK
  have hlen := hS.len
  have hT : isT (if iOp I = 65 then 127 else 126) := by
    split
    · exact .inl rfl
    · exact .inr rfl
  obtain ⟨T, s1, s2, s3, s4⟩ := eff_sp (eff_push hl.eff0 hT h4) hS
  rw [List.append_nil] at s1
  have ed : dop m I L S e = (0, L, iA I :: S, e) := by
    unfold dop
    rw [if_neg (by omega), if_neg (by omega), if_neg (by omega), if_neg (by omega), if_neg (by omega), if_neg (by omega), if_neg (by omega), if_neg (by omega), if_neg (by omega), if_neg (by omega), if_neg (by omega), if_neg (by omega), if_pos (by omega)]
  refine ⟨opSh_no rfl (.inr h1), ?_⟩
  rw [ed]
  refine ⟨s4, s3, fun _ => ⟨?_, hL, hG, ?_⟩⟩
  · rw [s2]
    refine s1.snoc fun z => hc ?_
    split at z
    next w => exact w
    · cases z
  · show (_ :: S).length ≤ _
    rw [List.length_cons]
    omega
/-- an INSTRUCTION that only changes values -/
theorem data_I (h : okFn t n m f) {i : Nat} (h1 : fiS (fiAt m f) ≤ i) (h2 : i ≤ fiE (fiAt m f)) (hI : (mdC m).2[i]? = some I) (hd : iOp I = 1 ∨ 18 ≤ iOp I) (hl : lv (jAt t m f i)) (hS : tyd S (jT (jAt t m f i))) (hL : loOk t m f L) (hG : evOk m e) : opSh m f I S ∧ tyAf t m f (jAt t m f i) (jAt t m f (i + 1)) (dop m I L S e) := by
  obtain ⟨q, u1, -⟩ := h.rd.2 i I h1 h2 hI
  obtain ⟨hops, hlg⟩ := pI_ops u1
  have hK := h.succ h1 h2 hI
  have hg := h.goodAt (i := i + 1) (by omega) (by omega)
  have h4 : (jT (jAt t m f i)).length ≤ 4000 := by
    have := h.Tl h1 h2
    have := h.fF.2.1
    have := h.1.2.2.2.2.2.2.1
    omega
  obtain ⟨v1, v2, v3, v4, v5, -⟩ := vd_facts h.1.2.2.2.2.1
  have hmx : mxP m ≤ 2 := by
    unfold mxP
    by_cases z : (mdM m).length = 1
    · cases hb : (liLast (mdM m)).2 with
      | none => exact Nat.le_refl _
      | some b => exact (lim_le v5).2 z b hb
    · have : mdM m = [] := List.eq_nil_of_length_eq_zero (by omega)
      rw [this]
      exact Nat.le_refl _
  have hlg2 := hlg
  unfold lgl noOp isNum memL at hlg2
  by_cases c1 : iOp I = 1
  · have e1 : jI t m f i I (jAt t m f i) = jAt t m f i := by
      unfold jI jStr
      rw [c1]
      rfl
    rw [hK, e1]
    exact data_1 c1 hl rfl hS hL hG
  by_cases c2 : iOp I = 26
  · exact data_26 c2 hl (by rw [hK]; unfold jI; rw [c2]; rfl) hg hS hL hG
  by_cases c3 : iOp I = 27
  · exact data_27 c3 hl h4 (by rw [hK]; unfold jI; rw [c3]; rfl) hg hS hL hG
  by_cases c4 : 32 ≤ iOp I ∧ iOp I ≤ 34
  · refine data_lo h c4 hl h4 ?_ hg hS hL hG
    rw [hK]
    unfold jI
    rw [if_neg (by omega), if_neg (by omega), if_neg (by omega), if_neg (by omega), if_pos (by omega)]
  by_cases c5 : 35 ≤ iOp I ∧ iOp I ≤ 36
  · refine data_gl h.1.2.1 c5 hl h4 ?_ hg hS hL hG
    rw [hK]
    unfold jI
    rw [if_neg (by omega), if_neg (by omega), if_neg (by omega), if_neg (by omega), if_neg (by omega), if_pos (by omega)]
  by_cases c6 : 40 ≤ iOp I ∧ iOp I ≤ 64
  · refine data_me v3 hmx ?_ hl h4 ?_ hg hS hL hG
    · by_cases z : 63 ≤ iOp I ∧ iOp I ≤ 64
      · exact .inr z
      · refine .inl ?_
        unfold memL
        omega
    · rw [hK]
      unfold jI
      rw [if_neg (by omega), if_neg (by omega), if_neg (by omega), if_neg (by omega), if_neg (by omega), if_neg (by omega), if_pos (by omega)]
  by_cases c7 : 65 ≤ iOp I ∧ iOp I ≤ 66
  · refine data_co c7 (fun z => ?_) hl h4 ?_ hS hL hG
    · have h9 := hops.2.2.2.2.1 (.inl z)
      rw [decide_eq_true z] at h9
      exact rG_can h9
    · rw [hK]
      unfold jI
      rw [if_neg (by omega), if_neg (by omega), if_neg (by omega), if_neg (by omega), if_neg (by omega), if_neg (by omega), if_neg (by omega), if_pos (by omega)]
  · refine data_num ?_ hl h4 ?_ hg hS hL hG
    · unfold isNum
      omega
    · rw [hK]
      unfold jI
      rw [if_neg (by omega), if_neg (by omega), if_neg (by omega), if_neg (by omega), if_neg (by omega), if_neg (by omega), if_neg (by omega), if_neg (by omega)]
end DATA2
