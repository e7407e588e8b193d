/-! RUNNING, in the middle: each step brings the end nearer -/
theorem aX_eq {t : Nat → UInt8} {m : Md} {J : JS} {i f j tk : Nat} {I : In} {L S : List Int64} {fs : List Fm} {e : Env} : aX t m J i I ((f, j, L, S) :: fs, [], e, tk, 0, false) = (if iOp I = 0 then ((f, j, L, S) :: fs, [], e, tk, 1, false)
    else if iOp I = 2 ∨ iOp I = 3 then ((f, j, L, S) :: fs, [], e, tk, 0, false)
    else if iOp I = 4 then (if (S.headD 0).toInt32 = 0 then ((f, nx (mdC m).2 i + 1, L, S.drop 1) :: fs, [], e, tk, 0, false) else ((f, j, L, S.drop 1) :: fs, [], e, tk, 0, false))
    else if iOp I = 12 then aBr m J ((iL I).headD 0) ((f, j, L, S) :: fs, [], e, tk, 0, false)
    else if iOp I = 13 then (if (S.headD 0).toInt32 = 0 then ((f, j, L, S.drop 1) :: fs, [], e, tk, 0, false) else aBr m (jPop 127 J).2 ((iL I).headD 0) ((f, j, L, S.drop 1) :: fs, [], e, tk, 0, false))
    else if iOp I = 14 then aBr m (jPop 127 J).2 (((iL I)[min (lo32 (S.headD 0)) (iS I)]?).getD 0) ((f, j, L, S.drop 1) :: fs, [], e, tk, 0, false)
    else if iOp I = 15 then aLv m ((f, j, L, S) :: fs, [], e, tk, 0, false)
    else if iOp I = 16 then aEn m (iB I) ((f, j, L, S) :: fs, [], e, tk, 0, false)
    else if iOp I = 17 then (if tbN m ≤ lo32 (S.headD 0) then ((f, j, L, S) :: fs, [], e, tk, 5, false) else if atTb m (lo32 (S.headD 0)) < 0 then ((f, j, L, S) :: fs, [], e, tk, 6, false) else if sameT t m (iB I) (fnTy m (atTb m (lo32 (S.headD 0))).toNatClampNeg) = false then ((f, j, L, S) :: fs, [], e, tk, 7, false) else aEn m (atTb m (lo32 (S.headD 0))).toNatClampNeg ((f, j, L, S.drop 1) :: fs, [], e, tk, 0, false))
    else ((f, j, (dop m I L S e).2.1, (dop m I L S e).2.2.1) :: fs, [], (dop m I L S e).2.2.2, tk, (dop m I L S e).1, false)) := rfl
section MUD
variable {t : Nat → UInt8} {n N f0 f i j tk lab : Nat} {m : Md} {L S S2 : List Int64} {e : Env} {fs : List Fm} {I : In} {J : JS} {b : Bk}
theorem br_mu (hf : okFn t n m f) (h1 : fiS (fiAt m f) ≤ i) (h2 : i ≤ fiE (fiAt m f)) (hJ : jB J = jB (jAt t m f i)) (hb : jBk J lab = some b) : potJ t m (sF (aBr m J lab ((f, j, L, S) :: fs, [], e, tk, 0, false))) ≤ potJ t m ((f, i, L, S2) :: fs) ∧ sK (aBr m J lab ((f, j, L, S) :: fs, [], e, tk, 0, false)) = tk := by
  have eA : aBr m J lab ((f, j, L, S) :: fs, [], e, tk, 0, false) = (match bkO b with
      | none => aLv m ((f, j, L, S) :: fs, [], e, tk, 0, false)
      | some o => ((f, (if opC (mdC m).2 o = 3 then o + 1 else endI (mdC m).2 o + 1), L, (if bCar (mdC m).2 b = 0 then [] else S.take 1) ++ S.drop (S.length - bkF b)) :: fs, [], e, tk, 0, false)) := by
    unfold aBr
    show (match jBk J lab with | none => _ | some b => _) = _
    rw [hb]
    rfl
  rw [eA]
  rcases br_at hf h1 h2 hJ hb with ⟨c1, c2, c3⟩ | ⟨o, I, c1, c2, c3, c4, c5, c6, c7, c8, c9, c10, c11, c12⟩
  · rw [c1]
    cases fs with
    | nil => exact ⟨Nat.zero_le _, rfl⟩
    | cons y ys => exact ⟨Nat.le_add_left _ _, rfl⟩
  · rw [c1]
    refine ⟨?_, rfl⟩
    by_cases z : opC (mdC m).2 o = 3
    · simp only [if_pos z]
      show (jB (jAt t m f (o + 1))).length + potJ t m fs ≤ (jB (jAt t m f i)).length + potJ t m fs
      omega
    · simp only [if_neg z]
      show (jB (jAt t m f (endI (mdC m).2 o + 1))).length + potJ t m fs ≤ (jB (jAt t m f i)).length + potJ t m fs
      omega
theorem mu_dec {s : St} (hR : RI t n m N f0 s) (hR2 : RI t n m N f0 (aS t m N s)) : mu t m N (aS t m N s) < mu t m N s := by
  obtain ⟨f, i, L, S, fs, e, tk, rfl, b1, b2, b3, b4, b5, b6, he, htk⟩ := RI_st hR
  obtain ⟨I, hI, hfI⟩ := b1.ins b3
  have eS := aS_eq (t := t) (m := m) (N := N) (f := f) (tk := tk) (L := L) (S := S) (e := e) (fs := fs) hI
  have hmu : mu t m N ((f, i, L, S) :: fs, [], e, tk, 0, false) = 2 * (N - tk) + ((jB (jAt t m f i)).length + potJ t m fs) := rfl
  have hmu2 : ∀ (x : Fm) (ys : List Fm) (R : List Int64) (e : Env) (tk tr : Nat) (sp : Bool), mu t m N (x :: ys, R, e, tk, tr, sp) = 2 * (N - tk) + ((jB (jAt t m x.1 x.2.1)).length + potJ t m ys) := fun _ _ _ _ _ _ _ => rfl
  have hpos := b4.2.2.1
  by_cases h11 : iOp I = 11
  · rw [if_pos h11] at eS
    rw [eS] at hR2 ⊢
    cases hs : sk (mdC m).2 i with
    | nil =>
      rw [hs, if_pos rfl] at hR2
      rw [if_pos rfl]
      cases fs with
      | nil => exact absurd rfl hR2.1
      | cons y ys =>
        obtain ⟨f2, i2, L2, S2⟩ := y
        show (2 * (N - tk) + ((jB (jAt t m f2 i2)).length + potJ t m ys)) < 2 * (N - tk) + ((jB (jAt t m f i)).length + ((jB (jAt t m f2 i2)).length + potJ t m ys))
        omega
    | cons a r =>
      obtain ⟨o, x⟩ := a
      obtain ⟨c1, c2, c3, c4, c5⟩ := b1.end11 b2 b3 hI b4 h11 hs
      rw [if_neg (by simp), hmu, hmu2]
      show (2 * (N - tk) + ((jB (jAt t m f (i + 1))).length + potJ t m fs)) < _
      rw [c5, List.length_take]
      omega
  rw [if_neg h11] at eS
  by_cases h5 : iOp I = 5
  · rw [if_pos h5] at eS
    obtain ⟨o, r, c1, c2, c3, c4, c5, c6, c7, -⟩ := b1.end5 b2 b3 hI b4 h5
    rw [eS, hmu, hmu2]
    show (2 * (N - tk) + ((jB (jAt t m f (nx (mdC m).2 i + 1))).length + potJ t m fs)) < _
    rw [c7, List.length_take]
    omega
  rw [if_neg h5] at eS
  by_cases hN2 : tk = N
  · rw [if_pos hN2] at eS
    rw [eS] at hR2
    exact absurd hR2.2.2.2.2.2.2.2.2.1 (show ¬ (true = false) by decide)
  rw [if_neg hN2] at eS
  have hlt := b1.ltE b2 b3 hI (fun w => h11 w.1)
  -- a STEP
  have one : ∀ s2 : St, aX t m (jAt t m f i) i I ((f, i + 1, L, S) :: fs, [], e, tk + 1, 0, false) = s2 → (RI t n m N f0 s2 → potJ t m (sF s2) ≤ (jB (jAt t m f i)).length + potJ t m fs + 1) → sK s2 = tk + 1 → mu t m N (aS t m N ((f, i, L, S) :: fs, [], e, tk, 0, false)) < mu t m N ((f, i, L, S) :: fs, [], e, tk, 0, false) := fun s2 ea hp hk2 => by
    rw [ea] at eS
    rw [eS] at hR2 ⊢
    have := hp hR2
    rw [hmu]
    show 2 * (N - sK s2) + potJ t m (sF s2) < _
    rw [hk2]
    omega
  have dead : ∀ {tr : Nat}, tr ≠ 0 → (RI t n m N f0 ((f, i + 1, L, S) :: fs, [], e, tk + 1, tr, false) → potJ t m (sF ((f, i + 1, L, S) :: fs, [], e, tk + 1, tr, false)) ≤ (jB (jAt t m f i)).length + potJ t m fs + 1) := fun ht hRI => absurd hRI.2.2.2.2.2.2.2.1 ht
  have en : ∀ {g : Nat} {S1 : List Int64}, jB (jAt t m f (i + 1)) = jB (jAt t m f i) → okFn t n m g → sK (aEn m g ((f, i + 1, L, S1) :: fs, [], e, tk + 1, 0, false)) = tk + 1 ∧ (RI t n m N f0 (aEn m g ((f, i + 1, L, S1) :: fs, [], e, tk + 1, 0, false)) → potJ t m (sF (aEn m g ((f, i + 1, L, S1) :: fs, [], e, tk + 1, 0, false))) ≤ (jB (jAt t m f i)).length + potJ t m fs + 1) := fun {g S1} hj hg => by
    unfold aEn
    show sK (if fs.length + 1 = 64 then _ else _) = tk + 1 ∧ (RI t n m N f0 (if fs.length + 1 = 64 then _ else _) → potJ t m (sF (if fs.length + 1 = 64 then _ else _)) ≤ _)
    by_cases z : fs.length + 1 = 64
    · rw [if_pos z]
      exact ⟨rfl, fun hRI => absurd hRI.2.2.2.2.2.2.2.1 (by show ¬ 8 = 0; decide)⟩
    · rw [if_neg z]
      refine ⟨rfl, fun _ => ?_⟩
      show (jB (jAt t m g (fiS (fiAt m g)))).length + ((jB (jAt t m f (i + 1))).length + potJ t m fs) ≤ _
      rw [hg.st0, hj]
      show 1 + _ ≤ _
      omega
  have brk : ∀ {J1 : JS} {lab : Nat} {b : Bk} {S1 : List Int64}, jB J1 = jB (jAt t m f i) → jBk J1 lab = some b → aX t m (jAt t m f i) i I ((f, i + 1, L, S) :: fs, [], e, tk + 1, 0, false) = aBr m J1 lab ((f, i + 1, L, S1) :: fs, [], e, tk + 1, 0, false) → mu t m N (aS t m N ((f, i, L, S) :: fs, [], e, tk, 0, false)) < mu t m N ((f, i, L, S) :: fs, [], e, tk, 0, false) := fun {J1 lab b S1} hJ hb ea => by
    obtain ⟨g1, g2⟩ := br_mu (j := i + 1) (L := L) (S := S1) (S2 := S) (e := e) (tk := tk + 1) (fs := fs) b1 b2 b3 hJ hb
    have g1 : _ ≤ (jB (jAt t m f i)).length + potJ t m fs := g1
    exact one _ ea (fun _ => by omega) g2
  have lvp : ∀ {S1 : List Int64}, sK (aLv m ((f, i + 1, L, S1) :: fs, [], e, tk + 1, 0, false)) = tk + 1 ∧ potJ t m (sF (aLv m ((f, i + 1, L, S1) :: fs, [], e, tk + 1, 0, false))) ≤ potJ t m fs := by
    intro S1
    cases fs with
    | nil => exact ⟨rfl, Nat.le_refl _⟩
    | cons y ys => exact ⟨rfl, Nat.le_refl _⟩
  have eX := aX_eq (t := t) (m := m) (J := jAt t m f i) (i := i) (I := I) (f := f) (j := i + 1) (L := L) (S := S) (fs := fs) (e := e) (tk := tk + 1)
  by_cases c0 : iOp I = 0
  · rw [if_pos c0] at eX
    exact one _ eX (dead (by decide)) rfl
  rw [if_neg c0] at eX
  by_cases c23 : iOp I = 2 ∨ iOp I = 3
  · rw [if_pos c23] at eX
    obtain ⟨l1, l2, l3, l4, l5⟩ := b1.in24 b2 b3 hI b4 (by omega)
    refine one _ eX (fun _ => ?_) rfl
    show (jB (jAt t m f (i + 1))).length + potJ t m fs ≤ _
    rw [l5, List.length_append, List.length_singleton]
    omega
  rw [if_neg c23] at eX
  by_cases c4 : iOp I = 4
  · rw [if_pos c4] at eX
    obtain ⟨l1, l2, l3, l4, l5⟩ := b1.in24 b2 b3 hI b4 (by omega)
    obtain ⟨z1, z2, z3, z4, z5⟩ := b1.if0 b2 b3 hI b4 c4
    have hl5 : (jB (jAt t m f (i + 1))).length = (jB (jAt t m f i)).length + 1 := by rw [l5, List.length_append, List.length_singleton]
    by_cases z : (S.headD 0).toInt32 = 0
    · rw [if_pos z] at eX
      refine one _ eX (fun _ => ?_) rfl
      show (jB (jAt t m f (nx (mdC m).2 i + 1))).length + potJ t m fs ≤ _
      rcases z5 with ⟨-, -, y⟩ | ⟨-, -, -, y⟩
      · rw [y, hl5]
        omega
      · rw [y]
        omega
    · rw [if_neg z] at eX
      refine one _ eX (fun _ => ?_) rfl
      show (jB (jAt t m f (i + 1))).length + potJ t m fs ≤ _
      omega
  rw [if_neg c4] at eX
  by_cases c12 : iOp I = 12
  · rw [if_pos c12] at eX
    obtain ⟨J1, T, due, d1, d2, d3, d4, d5, d6, d7, d8, d9, d10⟩ := br_lv b1 b2 b3 hI b4 (.inl c12)
    have hJ : J1 = jAt t m f i := by rw [d1, c12]; rfl
    obtain ⟨lab, ls, hls⟩ := List.exists_cons_of_ne_nil d9
    obtain ⟨b, e1, e2'⟩ := d8 lab (by rw [hls]; exact List.mem_cons_self)
    rw [hls] at eX
    subst hJ
    exact brk rfl e1 eX
  rw [if_neg c12] at eX
  by_cases c13 : iOp I = 13
  · rw [if_pos c13] at eX
    obtain ⟨J1, T, due, d1, d2, d3, d4, d5, d6, d7, d8, d9, d10⟩ := br_lv b1 b2 b3 hI b4 (.inr (.inl c13))
    have hJ : J1 = (jPop 127 (jAt t m f i)).2 := by rw [d1, c13]; rfl
    obtain ⟨lab, ls, hls⟩ := List.exists_cons_of_ne_nil d9
    obtain ⟨b, e1, e2'⟩ := d8 lab (by rw [hls]; exact List.mem_cons_self)
    rw [hls, ← hJ] at eX
    by_cases z : (S.headD 0).toInt32 = 0
    · rw [if_pos z] at eX
      refine one _ eX (fun _ => ?_) rfl
      show (jB (jAt t m f (i + 1))).length + potJ t m fs ≤ _
      rw [d10 c13, d3]
      omega
    · rw [if_neg z] at eX
      exact brk d3 e1 eX
  rw [if_neg c13] at eX
  by_cases c14 : iOp I = 14
  · rw [if_pos c14] at eX
    obtain ⟨J1, T, due, d1, d2, d3, d4, d5, d6, d7, d8, d9, d10⟩ := br_lv b1 b2 b3 hI b4 (.inr (.inr c14))
    have hJ : J1 = (jPop 127 (jAt t m f i)).2 := by rw [d1, c14]; rfl
    have hlen := hfI.2.2.2.1 c14
    have hlt2 : min (lo32 (S.headD 0)) (iS I) < (iL I).length := by omega
    have hg : (iL I)[min (lo32 (S.headD 0)) (iS I)]? = some (iL I)[min (lo32 (S.headD 0)) (iS I)] := List.getElem?_eq_getElem hlt2
    obtain ⟨b, e1, e2'⟩ := d8 _ (List.getElem_mem hlt2)
    rw [← hJ, hg] at eX
    exact brk d3 e1 eX
  rw [if_neg c14] at eX
  by_cases c15 : iOp I = 15
  · rw [if_pos c15] at eX
    refine one _ eX (fun _ => ?_) lvp.1
    have := lvp (S1 := S)
    omega
  rw [if_neg c15] at eX
  by_cases c16 : iOp I = 16
  · rw [if_pos c16] at eX
    obtain ⟨g1, g2, T, g3, g4, g5, g6⟩ := c16_lv b1 b2 b3 hI b4 c16
    obtain ⟨n2, n3⟩ := en (S1 := S) g5 g1
    exact one _ eX n3 n2
  rw [if_neg c16] at eX
  by_cases c17 : iOp I = 17
  · rw [if_pos c17] at eX
    obtain ⟨g0, g1, g2, T, g3, g4, g5, g6⟩ := c17_lv b1 b2 b3 hI b4 c17
    by_cases q1 : tbN m ≤ lo32 (S.headD 0)
    · rw [if_pos q1] at eX
      exact one _ eX (dead (by decide)) rfl
    rw [if_neg q1] at eX
    by_cases q2 : atTb m (lo32 (S.headD 0)) < 0
    · rw [if_pos q2] at eX
      exact one _ eX (dead (by decide)) rfl
    rw [if_neg q2] at eX
    by_cases q3 : sameT t m (iB I) (fnTy m (atTb m (lo32 (S.headD 0))).toNatClampNeg) = false
    · rw [if_pos q3] at eX
      exact one _ eX (dead (by decide)) rfl
    rw [if_neg q3] at eX
    rcases tb_at b1.1 (lo32 (S.headD 0)) with w | ⟨g, w1, w2⟩
    · rw [w] at q2
      exact absurd (by decide) q2
    · have hl2 : (mdU m).length ≤ 60 := b1.1.1.2.1
      have hgc : (atTb m (lo32 (S.headD 0))).toNatClampNeg = g := by rw [w2, nI_clamp (by omega)]
      rw [hgc] at eX
      obtain ⟨n2, n3⟩ := en (S1 := S.drop 1) g5 ⟨b1.1, w1⟩
      exact one _ eX n3 n2
  rw [if_neg c17] at eX
  obtain ⟨q, u1, -⟩ := b1.rd.2 i I b2 b3 hI
  obtain ⟨hops, hlg⟩ := pI_ops u1
  have hd : iOp I = 1 ∨ 18 ≤ iOp I := by
    unfold lgl noOp isNum memL at hlg
    omega
  obtain ⟨d1, d2, d3, d4⟩ := data_I (e := e) b1 b2 b3 hI hd b4 b6 b5 he
  refine one _ eX (fun _ => ?_) rfl
  show (jB (jAt t m f (i + 1))).length + potJ t m fs ≤ _
  rw [d3]
  omega
theorem RI_stop {s : St} (h : RI t n m N f0 s) : ¬ stop s := by
  rintro (z | z | z)
  · exact h.1 z
  · exact z h.2.2.2.2.2.2.2.1
  · rw [h.2.2.2.2.2.2.2.2.1] at z
    cases z
theorem aIt_succ : ∀ (k : Nat) (s : St), aIt t m N (k + 1) s = aS t m N (aIt t m N k s)
  | 0, _ => rfl
  | k + 1, s => by
    rw [aIt, aIt_succ k]
    rfl
theorem mu_it {s : St} (hR : RI t n m N f0 s) : ∀ (k : Nat), RI t n m N f0 (aIt t m N k s) → mu t m N (aIt t m N k s) + k ≤ mu t m N s
  | 0, _ => Nat.le_refl _
  | k + 1, h => by
    have hk : RI t n m N f0 (aIt t m N k s) := by
      -- a stop would stay
      have : ∀ j, RI t n m N f0 (aIt t m N j s) ∨ stop (aIt t m N j s) := fun j => by
        induction j with
        | zero => exact .inl hR
        | succ j ih =>
          rw [aIt_succ]
          rcases ih with y | y
          · rcases step_RI y with w | w
            · exact .inl w
            · exact .inr w.1
          · rw [aS_stop y]
            exact .inr y
      rcases this k with y | y
      · exact y
      · rw [aIt_succ, aS_stop y] at h
        exact absurd y (RI_stop h)
    have h1 := mu_it hR k hk
    rw [aIt_succ] at h ⊢
    have h2 := mu_dec hk h
    omega
end MUD
