/-! A RUN, the class: each step -/
theorem aS_eq {t : Nat → UInt8} {m : Md} {N f i tk : Nat} {L S : List Int64} {e : Env} {fs : List Fm} {I : In} (hI : (mdC m).2[i]? = some I) : aS t m N ((f, i, L, S) :: fs, [], e, tk, 0, false) = (if iOp I = 11 then (if sk (mdC m).2 i = [] then aLv m ((f, i, L, S) :: fs, [], e, tk, 0, false) else ((f, i + 1, L, S) :: fs, [], e, tk, 0, false))
      else if iOp I = 5 then ((f, nx (mdC m).2 i + 1, L, S) :: fs, [], e, tk, 0, false)
      else if tk = N then ((f, i, L, S) :: fs, [], e, tk, 0, true)
      else aX t m (jAt t m f i) i I ((f, i + 1, L, S) :: fs, [], e, tk + 1, 0, false)) := by
  unfold aS
  show (if (0 : Nat) ≠ 0 ∨ false = true then _ else match (mdC m).2[i]? with | none => _ | some I => _) = _
  rw [if_neg (by decide), hI]
  rfl
section SIMX3
variable {t : Nat → UInt8} {n d f f0 g i j k l tk N v4 T eE lab : Nat} {m : Md} {σ σ' : fkS} {L S R A B : List Int64} {e : Env} {sp : Bool} {fs : List Fm} {v w : Int64} {I : In} {Q : fkS → Prop} {QQ : Option Value → fkS → Prop} {b : Bk} {J : JS}
theorem okFn.clo24 (hX : SX t n m σ) {o : Nat} {I : In} (hI : (mdC m).2[o]? = some I) (h24 : 2 ≤ iOp I ∧ iOp I ≤ 4) : clo (mdC m).2 o := clo_open hX.DC.2.2.2 hI h24
theorem okFn.clo5 (hX : SX t n m σ) (hf : okFn t n m f) (h1 : fiS (fiAt m f) ≤ i) (h2 : i ≤ fiE (fiAt m f)) (hI : (mdC m).2[i]? = some I) (h5 : iOp I = 5) : clo (mdC m).2 i := by
  obtain ⟨o, r, s1, s2⟩ := hf.five h1 h2 hI h5
  have hnx := nx_eq hI (.inl h5) s1
  cases hO : (mdC m).2[o]? with
  | none =>
    unfold opC at s2
    rw [hO] at s2
    cases s2
  | some I0 =>
    rw [opC_get hO] at s2
    have hc := clo_open hX.DC.2.2.2 hO (by omega)
    have := clo_else hX.DC.2.2.2 hc (by rw [hnx, opC_get hI]; exact h5)
    rw [hnx] at this
    exact this
theorem hOk.le {fs : List Fm} {x : Fm} (h : hOk tk (x :: fs)) (h64 : (x :: fs).length ≤ 64) (hk : tk ≤ 20000) : (fl (x :: fs)).length ≤ 23208 := by
  have h1 := h.1
  have : (x :: fs).length = fs.length + 1 := rfl
  omega
theorem sim_X {s : St} (hX : SX t n m σ) (hR : RI t n m N f0 s) (hN : N ≤ 20000) (h : PX m s σ) (hT : T + 1 < 1000000)
    (hk : ∀ dt σ', 1 ≤ dt → dt ≤ 2 → (RI t n m N f0 (aS t m N s) → dt + mu t m N (aS t m N s) ≤ mu t m N s) → σ'.2.2 = σ.2.2 → Fr sRun σ σ' → PX m (aS t m N s) σ' → W3 (d + 5) N v4 (if sS (aS t m N s) = true then 1 else 0) (T + dt) σ' QQ) : W3 (d + 5) N v4 0 T σ QQ := by
  obtain ⟨f, i, L, S, fs, e, tk, rfl, b1, b2, b3, b4, b5, b6, he, htk⟩ := RI_st hR
  obtain ⟨a1, a2, a3, a4, a5, -⟩ := hR
  have a5 : fs.length + 1 ≤ 64 := a5
  have hfs : fs.length ≤ 63 := by omega
  have hlen : (fl ((f, i, L, S) :: fs)).length ≤ 23208 := hOk.le a3 a5 (by show tk ≤ 20000; omega)
  have hL : fsL m fs := a2.2.L
  have hT1 : T < 1000000 := by omega
  have htk2 : tk ≤ 20000 := by omega
  obtain ⟨I, hI, hfI⟩ := b1.ins b3
  have eS := aS_eq (t := t) (m := m) (N := N) (f := f) (tk := tk) (L := L) (S := S) (e := e) (fs := fs) hI
  have hmu : mu t m N ((f, i, L, S) :: fs, [], e, tk, 0, false) = 2 * (N - tk) + ((jB (jAt t m f i)).length + potJ t m fs) := rfl
  have hmu2 : ∀ (x : Fm) (ys : List Fm) (R : List Int64) (e : Env) (tk tr : Nat) (sp : Bool), mu t m N (x :: ys, R, e, tk, tr, sp) = 2 * (N - tk) + ((jB (jAt t m x.1 x.2.1)).length + potJ t m ys) := fun _ _ _ _ _ _ _ => rfl
  by_cases h11 : iOp I = 11
  · rw [if_pos h11] at eS
    refine w_t11 (d := d + 2) hX b1 hT1 h hfs b2 b3 hI h11 htk2 hN (fun hs => ?_) hL fun σ1 e1 f1 p1 => ?_
    · have hp : jG (jPart (jAt t m f i)) = true := by
        have hg := b1.goodAt (i := i + 1) (by omega) (by omega)
        have e := b1.succ b2 b3 hI
        rw [jI_11 h11] at e
        obtain ⟨b, c1, c2, c3, c4, c5⟩ := blk_of (bad := eBad (mdC m).2 (jAt t m f i)) b4.1 b4.2.2.1
        rw [e, c5, jG_pushG] at hg
        have hg2 : (jG (jPart (jAt t m f i)) && !(eBad (mdC m).2 (jAt t m f i) && decide (bkG b ≠ 0))) = true := hg
        rw [Bool.and_eq_true] at hg2
        exact hg2.1
      obtain ⟨bt, t1, t2, t3, t4⟩ := b4.top
      obtain ⟨k, hk, hb⟩ := top_get t1
      have hlen := (b1.skj b2 b3).len
      rw [hs] at hlen
      have hlen : (jB (jAt t m f i)).length = 1 := hlen
      have hk0 : k = 0 := by omega
      subst hk0
      obtain ⟨v, hv⟩ := b1.fb b2 b3
      rw [hb] at hv
      have hv := Option.some.inj hv
      have hT := part_lv b4 t1 hp
      rw [hv] at hT
      have hT : jT (jAt t m f i) = (jT (jAt t m f i)).take 0 ++ gvL (gvF m f) := hT
      rw [hT] at b6
      exact (ty_gv b6).2
    · have hsS : sS (aS t m N ((f, i, L, S) :: fs, [], e, tk, 0, false)) = false := by
        rw [eS]
        by_cases z : sk (mdC m).2 i = []
        · rw [if_pos z]
          cases fs <;> rfl
        · rw [if_neg z]
          rfl
      have := hk 1 σ1 (Nat.le_refl _) (by omega) (fun hRI => ?_) e1 f1 (by rw [eS]; exact p1)
      · rw [hsS] at this
        exact this
      · rw [eS] at hRI ⊢
        cases hs : sk (mdC m).2 i with
        | nil =>
          rw [hs, if_pos rfl] at hRI
          rw [if_pos rfl]
          cases fs with
          | nil => exact absurd rfl hRI.1
          | cons y ys =>
            obtain ⟨f2, i2, L2, S2⟩ := y
            have := b4.2.2.1
            show 1 + (2 * (N - tk) + ((jB (jAt t m f2 i2)).length + potJ t m ys)) ≤ 2 * (N - tk) + ((jB (jAt t m f i)).length + ((jB (jAt t m f2 i2)).length + potJ t m ys))
            omega
        | cons a r =>
          obtain ⟨o, x⟩ := a
          obtain ⟨c1, c2, c3, c4, c5⟩ := b1.end11 b2 b3 hI b4 h11 hs
          rw [if_neg (by simp), hmu, hmu2]
          show 1 + (2 * (N - tk) + ((jB (jAt t m f (i + 1))).length + potJ t m fs)) ≤ _
          have := b4.2.2.1
          rw [c5, List.length_take]
          omega
  rw [if_neg h11] at eS
  by_cases h5 : iOp I = 5
  · rw [if_pos h5] at eS
    refine w_t5 (d := d + 2) hX b1 hT1 h hfs hI h5 (okFn.clo5 hX b1 b2 b3 hI h5) htk2 hN fun σ1 e1 f1 p1 => ?_
    have := hk 1 σ1 (Nat.le_refl _) (by omega) (fun _ => ?_) e1 f1 (by rw [eS]; exact p1)
    · rw [eS] at this
      exact this
    · obtain ⟨o, r, c1, c2, c3, c4, c5, c6, c7, -⟩ := b1.end5 b2 b3 hI b4 h5
      rw [eS, hmu, hmu2]
      show 1 + (2 * (N - tk) + ((jB (jAt t m f (nx (mdC m).2 i + 1))).length + potJ t m fs)) ≤ _
      have := b4.2.2.1
      rw [c7, List.length_take]
      omega
  rw [if_neg h5] at eS
  refine w_head hX hT1 h hfs hI htk2 hN (fun z => absurd z h5) (fun z => absurd z h11) (fun _ _ hN2 => ?_) fun _ _ htN => ?_
  · have hN2 : tk = N := by omega
    rw [if_pos hN2] at eS
    have := hk 1 σ (Nat.le_refl _) (by omega) (fun hRI => ?_) rfl Fr.rf (by rw [eS]; exact ⟨h.1, h.2.1, h.2.2.1, h.2.2.2⟩)
    · rw [eS] at this
      exact this
    · rw [eS] at hRI
      exact absurd hRI.2.2.2.2.2.2.2.2.1 (show ¬ (true = false) by decide)
  have hN2 : ¬ tk = N := by omega
  rw [if_neg hN2] at eS
  have hlt := b1.ltE b2 b3 hI (fun w => h11 w.1)
  -- the STEP is counted, the next one comes
  have f2 : Fr sRun σ (sI (sI σ 56 14 (nI (tk + 1))) 56 11 (nI (i + 1))) := (Fr.rf.sI rfl).sI rfl
  have e2 : (sI (sI σ 56 14 (nI (tk + 1))) 56 11 (nI (i + 1))).2.2 = σ.2.2 := rfl
  have p2 : PX m ((f, i + 1, L, S) :: fs, [], e, tk + 1, 0, false) (sI (sI σ 56 14 (nI (tk + 1))) 56 11 (nI (i + 1))) := by
    have q : PX m ((f, i, L, S) :: fs, [], e, tk + 1, 0, false) (sI σ 56 14 (nI (tk + 1))) := by
      obtain ⟨t1, t2, t3, t4⟩ := h
      obtain ⟨p6, p7, p8⟩ := t4 rfl
      have fq : Fr (fun c j => Nat.beq c 56 && Nat.beq j 14) σ (sI σ 56 14 (nI (tk + 1))) := Fr.rf.sI rfl
      exact ⟨t1.fr fq (fun _ => rfl) (fun _ => rfl) rfl, sI_ss, t3, fun _ => ⟨p6.fr fq rfl fun _ => rfl, (show frX σ ((f, i, L, S) :: fs) from p7).eq fun _ _ => rfl, p8⟩⟩
    exact q.nx
  generalize sI (sI σ 56 14 (nI (tk + 1))) 56 11 (nI (i + 1)) = σ2 at f2 e2 p2 ⊢
  have hX2 : SX t n m σ2 := hX.fr f2
  have hrv : rvdA t m (mdU m).length (rnS swM σ2) := hX2.2.2.1
  have hlen2 : (fl ((f, i + 1, L, S) :: fs)).length ≤ 23208 := hlen
  -- behind a STEP of one turn
  have one : ∀ s2 : St, aX t m (jAt t m f i) i I ((f, i + 1, L, S) :: fs, [], e, tk + 1, 0, false) = s2 → sS s2 = false → (RI t n m N f0 s2 → potJ t m (sF s2) ≤ (jB (jAt t m f i)).length + potJ t m fs + 1) → sK s2 = tk + 1 → ∀ σ3, σ3.2.2 = σ2.2.2 → Fr sRun σ2 σ3 → PX m s2 σ3 → W3 (d + 5) N v4 0 (T + 1) (sW σ3 σ) QQ := fun s2 ea es hp hk2 σ3 e3 f3 p3 => by
    rw [sW_eq (e3.trans e2)]
    rw [ea] at eS
    have := hk 1 σ3 (Nat.le_refl _) (by omega) (fun hRI => ?_) (e3.trans e2) (f2.tr f3) (by rw [eS]; exact p3)
    · rw [eS, es] at this
      exact this
    · rw [eS] at hRI ⊢
      have := hp hRI
      rw [hmu]
      show 1 + (2 * (N - sK s2) + potJ t m (sF s2)) ≤ _
      rw [hk2]
      omega
  have ct : ∀ {σ3 : fkS}, Fr sCt σ2 σ3 → Fr sRun σ2 σ3 := fun f3 => f3.mono fun _ _ => sCt_run
  -- behind a branch
  have brk : ∀ {J1 : JS} {lab : Nat} {b : Bk} {S1 : List Int64}, jB J1 = jB (jAt t m f i) → jBk J1 lab = some b → brH (mdC m).2 b S1 → aX t m (jAt t m f i) i I ((f, i + 1, L, S) :: fs, [], e, tk + 1, 0, false) = aBr m J1 lab ((f, i + 1, L, S1) :: fs, [], e, tk + 1, 0, false) → ∀ σ3, σ3.2.2 = σ2.2.2 → Fr sCt σ2 σ3 → PX m (brF (mdC m).2 (fiE (fiAt m f)) b f L S1 :: fs, [], e, tk + 1, 0, false) σ3 → W3 (d + 5) N v4 0 (T + 1) (sW σ3 σ) QQ := fun {J1 lab b S1} hJ hb hH ea σ3 e3 f3 p3 => by
    rw [sW_eq (e3.trans e2)]
    rw [ea] at eS
    refine w_brk (d := d + 2) (j := i + 1) (hX2.ct f3) b1 b2 b3 hJ hb hH (by omega) p3 hfs (by omega) hN (by omega) hL fun dt σ4 hdt hm e4 f4 p4 => ?_
    have hsS : sS (aBr m J1 lab ((f, i + 1, L, S1) :: fs, [], e, tk + 1, 0, false)) = false := by
      unfold aBr
      show sS (match jBk J1 lab with | none => _ | some b => _) = _
      rw [hb]
      show sS (match bkO b with | none => _ | some o => _) = _
      cases bkO b with
      | none => cases fs <;> rfl
      | some o => rfl
    have := hk (1 + dt) σ4 (by omega) (by omega) (fun hRI => ?_) (e4.trans (e3.trans e2)) (f2.tr ((ct f3).tr f4)) (by rw [eS]; exact p4)
    · rw [eS, hsS, ← Nat.add_assoc] at this
      exact this
    · rw [eS] at hRI ⊢
      have h9 := hm hRI.1
      have hpo : potJ t m ((f, i, L, S1) :: fs) = (jB (jAt t m f i)).length + potJ t m fs := rfl
      rw [hmu]
      rw [hpo] at h9
      omega
  have hop := hfI.2.2.2.2.2.2
  -- a dead end
  have dead : ∀ {tr : Nat}, tr ≠ 0 → (RI t n m N f0 ((f, i + 1, L, S) :: fs, [], e, tk + 1, tr, false) → potJ t m (sF ((f, i + 1, L, S) :: fs, [], e, tk + 1, tr, false)) ≤ (jB (jAt t m f i)).length + potJ t m fs + 1) := fun ht hRI => absurd hRI.2.2.2.2.2.2.2.1 ht
  have en : ∀ {g : Nat} {S1 : List Int64}, jB (jAt t m f (i + 1)) = jB (jAt t m f i) → okFn t n m g → (sS (aEn m g ((f, i + 1, L, S1) :: fs, [], e, tk + 1, 0, false)) = false) ∧ sK (aEn m g ((f, i + 1, L, S1) :: fs, [], e, tk + 1, 0, false)) = tk + 1 ∧ (RI t n m N f0 (aEn m g ((f, i + 1, L, S1) :: fs, [], e, tk + 1, 0, false)) → potJ t m (sF (aEn m g ((f, i + 1, L, S1) :: fs, [], e, tk + 1, 0, false))) ≤ (jB (jAt t m f i)).length + potJ t m fs + 1) := fun {g S1} hj hg => by
    unfold aEn
    show sS (if fs.length + 1 = 64 then _ else _) = false ∧ sK (if fs.length + 1 = 64 then _ else _) = tk + 1 ∧ (RI t n m N f0 (if fs.length + 1 = 64 then _ else _) → potJ t m (sF (if fs.length + 1 = 64 then _ else _)) ≤ _)
    by_cases z : fs.length + 1 = 64
    · rw [if_pos z]
      exact ⟨rfl, rfl, fun hRI => absurd hRI.2.2.2.2.2.2.2.1 (by show ¬ 8 = 0; decide)⟩
    · rw [if_neg z]
      refine ⟨rfl, rfl, fun _ => ?_⟩
      show (jB (jAt t m g (fiS (fiAt m g)))).length + ((jB (jAt t m f (i + 1))).length + potJ t m fs) ≤ _
      rw [hg.st0, hj]
      show 1 + _ ≤ _
      omega
  have lvp : ∀ {S1 : List Int64}, sS (aLv m ((f, i + 1, L, S1) :: fs, [], e, tk + 1, 0, false)) = false ∧ sK (aLv m ((f, i + 1, L, S1) :: fs, [], e, tk + 1, 0, false)) = tk + 1 ∧ potJ t m (sF (aLv m ((f, i + 1, L, S1) :: fs, [], e, tk + 1, 0, false))) ≤ potJ t m fs := by
    intro S1
    cases fs with
    | nil => exact ⟨rfl, rfl, Nat.le_refl _⟩
    | cons y ys => exact ⟨rfl, rfl, Nat.le_refl _⟩
  have eX : aX t m (jAt t m f i) i I ((f, i + 1, L, S) :: fs, [], e, tk + 1, 0, false) = (if iOp I = 0 then ((f, i + 1, L, S) :: fs, [], e, tk + 1, 1, false)
    else if iOp I = 2 ∨ iOp I = 3 then ((f, i + 1, L, S) :: fs, [], e, tk + 1, 0, false)
    else if iOp I = 4 then (if (S.headD 0).toInt32 = 0 then ((f, nx (mdC m).2 i + 1, L, S.drop 1) :: fs, [], e, tk + 1, 0, false) else ((f, i + 1, L, S.drop 1) :: fs, [], e, tk + 1, 0, false))
    else if iOp I = 12 then aBr m (jAt t m f i) ((iL I).headD 0) ((f, i + 1, L, S) :: fs, [], e, tk + 1, 0, false)
    else if iOp I = 13 then (if (S.headD 0).toInt32 = 0 then ((f, i + 1, L, S.drop 1) :: fs, [], e, tk + 1, 0, false) else aBr m (jPop 127 (jAt t m f i)).2 ((iL I).headD 0) ((f, i + 1, L, S.drop 1) :: fs, [], e, tk + 1, 0, false))
    else if iOp I = 14 then aBr m (jPop 127 (jAt t m f i)).2 (((iL I)[min (lo32 (S.headD 0)) (iS I)]?).getD 0) ((f, i + 1, L, S.drop 1) :: fs, [], e, tk + 1, 0, false)
    else if iOp I = 15 then aLv m ((f, i + 1, L, S) :: fs, [], e, tk + 1, 0, false)
    else if iOp I = 16 then aEn m (iB I) ((f, i + 1, L, S) :: fs, [], e, tk + 1, 0, false)
    else if iOp I = 17 then (if tbN m ≤ lo32 (S.headD 0) then ((f, i + 1, L, S) :: fs, [], e, tk + 1, 5, false) else if atTb m (lo32 (S.headD 0)) < 0 then ((f, i + 1, L, S) :: fs, [], e, tk + 1, 6, false) else if sameT t m (iB I) (fnTy m (atTb m (lo32 (S.headD 0))).toNatClampNeg) = false then ((f, i + 1, L, S) :: fs, [], e, tk + 1, 7, false) else aEn m (atTb m (lo32 (S.headD 0))).toNatClampNeg ((f, i + 1, L, S.drop 1) :: fs, [], e, tk + 1, 0, false))
    else ((f, i + 1, (dop m I L S e).2.1, (dop m I L S e).2.2.1) :: fs, [], (dop m I L S e).2.2.2, tk + 1, (dop m I L S e).1, false)) := rfl
  by_cases c0 : iOp I = 0
  · rw [if_pos c0] at eX
    exact x_0 (d := d + 3) hX2 hI c0 p2 fun σ3 e3 f3 p3 => one _ eX rfl (dead (by decide)) rfl σ3 e3 (ct f3) p3
  rw [if_neg c0] at eX
  by_cases c23 : iOp I = 2 ∨ iOp I = 3
  · rw [if_pos c23] at eX
    obtain ⟨l1, l2, l3, l4, l5⟩ := b1.in24 b2 b3 hI b4 (by omega)
    refine x_23 (d := d + 3) hX2 hI c23 (one _ eX rfl (fun _ => ?_) rfl σ2 rfl Fr.rf p2)
    show (jB (jAt t m f (i + 1))).length + potJ t m fs ≤ _
    rw [l5, List.length_append, List.length_singleton]
    omega
  rw [if_neg c23] at eX
  by_cases c4 : iOp I = 4
  · rw [if_pos c4] at eX
    obtain ⟨l1, l2, l3, l4, l5⟩ := b1.in24 b2 b3 hI b4 (by omega)
    obtain ⟨z1, z2, z3, z4, z5⟩ := b1.if0 b2 b3 hI b4 c4
    rw [l4 c4] at b6
    obtain ⟨c, r, rfl, hc, hr⟩ := b6.un
    have eX : _ = (if c.toInt32 = 0 then ((f, nx (mdC m).2 i + 1, L, r) :: fs, [], e, tk + 1, 0, false) else ((f, i + 1, L, r) :: fs, [], e, tk + 1, 0, false)) := eX
    have hl5 : (jB (jAt t m f (i + 1))).length = (jB (jAt t m f i)).length + 1 := by rw [l5, List.length_append, List.length_singleton]
    refine x_4 (d := d + 3) hX2 hI c4 (okFn.clo24 hX2 hI (by omega)) p2 fun σ3 e3 f3 p3 => ?_
    by_cases z : c.toInt32 = 0
    · rw [if_pos z] at eX p3
      refine one _ eX rfl (fun _ => ?_) rfl σ3 e3 (ct f3) p3
      show (jB (jAt t m f (nx (mdC m).2 i + 1))).length + potJ t m fs ≤ _
      rcases z5 with ⟨-, -, y⟩ | ⟨-, -, -, y⟩
      · rw [y, hl5]
        omega
      · rw [y]
        omega
    · rw [if_neg z] at eX p3
      refine one _ eX rfl (fun _ => ?_) rfl σ3 e3 (ct f3) p3
      show (jB (jAt t m f (i + 1))).length + potJ t m fs ≤ _
      omega
  rw [if_neg c4] at eX
  have hfl := b1.2
  -- what a label's row says
  have lab0 : isBr (iOp I) → ∀ (q lab : Nat) (b : Bk), (iL I)[q]? = some lab → jBk (jBr1 (iOp I) (jAt t m f i)) lab = some b → lbB (mdC m).2 i + q < 4000 ∧ rLab (mdC m).2 (fiE (fiAt m f)) b (lbB (mdC m).2 i + q) (rnS swM σ2) := fun hb q lab b hq hbk => by
    refine ⟨?_, hrv f hfl i I b2 (by omega) hI hb q lab b (get_lt hq) hq hbk⟩
    have h1 := get_lt (lbs_get hI hq)
    have h2 := b1.C.2.1
    omega
  -- what is asked of the operands
  have hbr : ∀ {J1 : JS} {T : List Nat} {due : Nat} {b : Bk} {S1 : List Int64}, jT J1 = T ++ gvL due → tyd S1 (jT J1) → bkF b ≤ T.length → bNeed (mdC m).2 b = due → brH (mdC m).2 b S1 := fun {J1 T due b S1} hT hS hF hd => by
    rw [hT] at hS
    obtain ⟨c1, c2, c3, c4, c5⟩ := car_ty (b := b) hS hd hF
    refine ⟨c5, c4, c2, fun z => ?_⟩
    have h7 := hS.len
    rw [List.length_append] at h7
    have hd1 : (gvL due).length = 1 := by
      unfold gvL
      rw [if_neg fun w => z (c3.mpr w)]
      rfl
    omega
  by_cases c12 : iOp I = 12
  · rw [if_pos c12] at eX
    obtain ⟨J1, T, due, d1, d2, d3, d4, d5, d6, d7, d8, d9, d10⟩ := br_lv b1 b2 b3 hI b4 (.inl c12)
    have hJ : J1 = jAt t m f i := by rw [d1, c12]; rfl
    rw [← d1] at lab0
    obtain ⟨lab, ls, hls⟩ := List.exists_cons_of_ne_nil d9
    obtain ⟨b, e1, e2'⟩ := d8 lab (by rw [hls]; exact List.mem_cons_self)
    have hbm : b ∈ jB J1 := by
      obtain ⟨k, -, hk, -⟩ := jIx_some e1
      exact List.mem_of_getElem? hk
    obtain ⟨q1, q2⟩ := lab0 (.inl c12) 0 lab b (by rw [hls]; rfl) e1
    rw [hls] at eX
    subst hJ
    have hH := hbr d5 b6 (d7 b hbm) e2'
    exact x_12 (d := d + 1) hX2 hI c12 q1 q2 p2 hH fun σ3 e3 f3 p3 => brk rfl e1 hH eX σ3 e3 f3 p3
  rw [if_neg c12] at eX
  by_cases c13 : iOp I = 13
  · rw [if_pos c13] at eX
    obtain ⟨J1, T, due, d1, d2, d3, d4, d5, d6, d7, d8, d9, d10⟩ := br_lv b1 b2 b3 hI b4 (.inr (.inl c13))
    have hJ : J1 = (jPop 127 (jAt t m f i)).2 := by rw [d1, c13]; rfl
    rw [← d1] at lab0
    obtain ⟨lab, ls, hls⟩ := List.exists_cons_of_ne_nil d9
    obtain ⟨b, e1, e2'⟩ := d8 lab (by rw [hls]; exact List.mem_cons_self)
    have hbm : b ∈ jB J1 := by
      obtain ⟨k, -, hk, -⟩ := jIx_some e1
      exact List.mem_of_getElem? hk
    obtain ⟨q1, q2⟩ := lab0 (.inr (.inl c13)) 0 lab b (by rw [hls]; rfl) e1
    rw [d4 (by omega)] at b6
    obtain ⟨c, r, rfl, hc, hr⟩ := b6.un
    rw [hls, ← hJ] at eX
    have eX : _ = (if c.toInt32 = 0 then ((f, i + 1, L, r) :: fs, [], e, tk + 1, 0, false) else aBr m J1 lab ((f, i + 1, L, r) :: fs, [], e, tk + 1, 0, false)) := eX
    have hH := hbr d5 hr (d7 b hbm) e2'
    refine x_13 (d := d + 1) hX2 hI c13 q1 q2 p2 hH (fun z σ3 e3 f3 p3 => ?_) fun z σ3 e3 f3 p3 => ?_
    · rw [if_pos z] at eX
      refine one _ eX rfl (fun _ => ?_) rfl σ3 e3 (ct f3) p3
      show (jB (jAt t m f (i + 1))).length + potJ t m fs ≤ _
      rw [d10 c13, d3]
      omega
    · rw [if_neg z] at eX
      exact brk d3 e1 hH eX σ3 e3 f3 p3
  rw [if_neg c13] at eX
  by_cases c14 : iOp I = 14
  · rw [if_pos c14] at eX
    obtain ⟨J1, T, due, d1, d2, d3, d4, d5, d6, d7, d8, d9, d10⟩ := br_lv b1 b2 b3 hI b4 (.inr (.inr c14))
    have hJ : J1 = (jPop 127 (jAt t m f i)).2 := by rw [d1, c14]; rfl
    rw [← d1] at lab0
    rw [d4 (by omega)] at b6
    obtain ⟨c, r, rfl, hc, hr⟩ := b6.un
    have hlen := hfI.2.2.2.1 c14
    have hlt2 : min (lo32 c) (iS I) < (iL I).length := by omega
    have hg : (iL I)[min (lo32 c) (iS I)]? = some (iL I)[min (lo32 c) (iS I)] := List.getElem?_eq_getElem hlt2
    obtain ⟨b, e1, e2'⟩ := d8 _ (List.getElem_mem hlt2)
    have hbm : b ∈ jB J1 := by
      obtain ⟨k, -, hk, -⟩ := jIx_some e1
      exact List.mem_of_getElem? hk
    obtain ⟨q1, q2⟩ := lab0 (.inr (.inr c14)) _ _ b hg e1
    rw [← hJ] at eX
    have eX : _ = aBr m J1 (((iL I)[min (lo32 c) (iS I)]?).getD 0) ((f, i + 1, L, r) :: fs, [], e, tk + 1, 0, false) := eX
    rw [hg] at eX
    have hH := hbr d5 hr (d7 b hbm) e2'
    exact x_14 (d := d + 1) hX2 hI c14 hfI.2.2.2.2.1 q1 q2 p2 hH fun σ3 e3 f3 p3 => brk d3 e1 hH eX σ3 e3 f3 p3
  rw [if_neg c14] at eX
  by_cases c15 : iOp I = 15
  · rw [if_pos c15] at eX
    obtain ⟨T, hT⟩ := ret_lv b1 b2 b3 hI b4 c15
    rw [hT] at b6
    refine x_15 (d := d + 1) hX2 hI c15 hfl p2 hfs (ty_gv b6).2 hL fun σ3 e3 f3 p3 => one _ eX lvp.1 (fun _ => ?_) lvp.2.1 σ3 e3 (ct f3) p3
    have := lvp (S1 := S)
    omega
  rw [if_neg c15] at eX
  by_cases c16 : iOp I = 16
  · rw [if_pos c16] at eX
    obtain ⟨g1, g2, T, g3, g4, g5, g6⟩ := c16_lv b1 b2 b3 hI b4 c16
    rw [g3] at b6
    have hlS := b6.len
    rw [List.length_append, agL_len] at hlS
    obtain ⟨n1, n2, n3⟩ := en (S1 := S) g5 g1
    exact x_16 (d := d + 1) hX2 hI c16 g1.2 p2 hfs (by unfold agN; omega) (by omega) fun σ3 e3 f3 p3 => one _ eX n1 n3 n2 σ3 e3 (ct f3) p3
  rw [if_neg c16] at eX
  by_cases c17 : iOp I = 17
  · rw [if_pos c17] at eX
    obtain ⟨g0, g1, g2, T, g3, g4, g5, g6⟩ := c17_lv b1 b2 b3 hI b4 c17
    rw [g3] at b6
    obtain ⟨c, r, rfl, hc, hr⟩ := b6.un
    have hlS := hr.len
    rw [List.length_append, agL_len] at hlS
    have htb : tbN m ≤ 100 := (lim_le (vd_facts b1.1.2.2.2.2.1).2.2.2.1).1
    have eX : _ = (if tbN m ≤ lo32 c then ((f, i + 1, L, c :: r) :: fs, [], e, tk + 1, 5, false) else if atTb m (lo32 c) < 0 then ((f, i + 1, L, c :: r) :: fs, [], e, tk + 1, 6, false) else if sameT t m (iB I) (fnTy m (atTb m (lo32 c)).toNatClampNeg) = false then ((f, i + 1, L, c :: r) :: fs, [], e, tk + 1, 7, false) else aEn m (atTb m (lo32 c)).toNatClampNeg ((f, i + 1, L, r) :: fs, [], e, tk + 1, 0, false)) := eX
    refine x_17 hX2 hI c17 g1 htb hfl p2 (by omega) (by omega) (fun g hg hsm => ?_) fun σ3 e3 f3 p3 => ?_
    · have := congrArg List.length (same_ag hsm).1
      rw [agL_len, agL_len] at this
      unfold agN
      omega
    · by_cases q1 : tbN m ≤ lo32 c
      · rw [if_pos q1] at eX p3
        exact one _ eX rfl (dead (by decide)) rfl σ3 e3 (ct f3) p3
      rw [if_neg q1] at eX p3
      by_cases q2 : atTb m (lo32 c) < 0
      · rw [if_pos q2] at eX p3
        exact one _ eX rfl (dead (by decide)) rfl σ3 e3 (ct f3) p3
      rw [if_neg q2] at eX p3
      by_cases q3 : sameT t m (iB I) (fnTy m (atTb m (lo32 c)).toNatClampNeg) = false
      · rw [if_pos q3] at eX p3
        exact one _ eX rfl (dead (by decide)) rfl σ3 e3 (ct f3) p3
      rw [if_neg q3] at eX p3
      rcases tb_at b1.1 (lo32 c) with w | ⟨g, w1, w2⟩
      · rw [w] at q2
        exact absurd (by decide) q2
      · have hl2 : (mdU m).length ≤ 60 := b1.1.1.2.1
        have hgc : (atTb m (lo32 c)).toNatClampNeg = g := by rw [w2, nI_clamp (by omega)]
        rw [hgc] at eX p3
        obtain ⟨n1, n2, n3⟩ := en (S1 := r) g5 ⟨b1.1, w1⟩
        exact one _ eX n1 n3 n2 σ3 e3 (ct f3) p3
  rw [if_neg c17] at eX
  obtain ⟨q, u1, -⟩ := b1.rd.2 i I b2 b3 hI
  obtain ⟨hops, hlg⟩ := pI_ops u1
  have hd : iOp I = 1 ∨ 18 ≤ iOp I := by
    unfold lgl noOp isNum memL at hlg
    omega
  have hoff : memL (iOp I) → offI I < 2 ^ 32 := fun z => by
    obtain ⟨al, o, q1, -, w2, -, w4⟩ := hops.2.2.2.2.2.1 z
    unfold offI hi64
    rw [w4]
    have := (nU_l w2).2.1
    show (BitVec.ofNat 64 o).toNat < _
    rw [BitVec.toNat_ofNat]
    omega
  obtain ⟨d1, d2, d3, d4⟩ := data_I (e := e) b1 b2 b3 hI hd b4 b6 b5 he
  refine x_data hX2 hI hlg hoff hd p2 d1 he b5.1 (by omega) fun σ3 e3 f3 p3 => one _ eX rfl (fun _ => ?_) rfl σ3 e3 (f3.mono fun _ _ => sDa_run) p3
  show (jB (jAt t m f (i + 1))).length + potJ t m fs ≤ _
  rw [d3]
  omega
end SIMX3
