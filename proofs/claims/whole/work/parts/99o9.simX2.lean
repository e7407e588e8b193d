/-! A RUN, the class: branches; each step -/
def brF (C : List In) (eE : Nat) (b : Bk) (f : Nat) (L S : List Int64) : Fm := (f, bTgt C eE b, L, (if bCar C b = 0 then [] else S.take 1) ++ S.drop (S.length - bkF b))
/-- what a branch asks of its operands -/
def brH (C : List In) (b : Bk) (S : List Int64) : Prop := bkF b ≤ S.length ∧ bCar C b ≤ 1 ∧ (bCar C b ≠ 0 → ∃ v r, S = v :: r) ∧ (bCar C b ≠ 0 → bkF b + 1 ≤ S.length)
section SIMX2
variable {t : Nat → UInt8} {n d f f0 g i j k l tk N v4 T eE lab : Nat} {m : Md} {σ σ' : fkS} {L S R A B : List Int64} {e : Env} {sp : Bool} {fs : List Fm} {v w : Int64} {I : In} {Q : fkS → Prop} {QQ : Option Value → fkS → Prop} {b : Bk} {J : JS}
theorem x_12 (hX : SX t n m σ) (hI : (mdC m).2[i]? = some I) (h12 : iOp I = 12) (hl : lbB (mdC m).2 i < 4000) (hr : rLab (mdC m).2 eE b (lbB (mdC m).2 i) (rnS swM σ)) (h : PX m ((f, j, L, S) :: fs, [], e, tk, 0, sp) σ) (hb : brH (mdC m).2 b S) (hQ : ∀ σ', σ'.2.2 = σ.2.2 → Fr sCt σ σ' → PX m (brF (mdC m).2 eE b f L S :: fs, [], e, tk, 0, sp) σ' → Q σ') : Dv (d + 4) 112 [.ref 56, .int (nI (iOp I)), .int (nI i)] σ Q := by
  have hi := hX.i4 hI
  refine x_low (d := d + 2) hX hI (by omega) ?_
  have hf := (hX.fst hI).1 (by unfold isBr; omega)
  rw [h12]
  refine S_Machine_control (Q := Qv _) hX.2.2.2.2.1 ⟨by decide, vp_in_nI hi (by decide), ?_⟩
  rw [nI_clamp (n := i) (by omega), hf]
  have go : Dv (d + 2) 114 [.ref 56, .int (nI (lbB (mdC m).2 i))] σ (fun σ10 => Qv (fun σ' => σ'.2.2 = σ.2.2 ∧ Q σ') none (sW σ10 σ)) := PX.br hX hl hr h hb.1 hb.2.1 hb.2.2.1 hb.2.2.2 fun σ1 e1 f1 p1 => by
    rw [sW_eq e1]
    exact ⟨e1, hQ σ1 e1 f1 p1⟩
  repeat' apply And.intro
  all_goals first | exact trivial | (intro z; first | exact absurd z (by decide) | skip)
  all_goals exact go
theorem x_13 {c : Int64} {r : List Int64} (hX : SX t n m σ) (hI : (mdC m).2[i]? = some I) (h13 : iOp I = 13) (hl : lbB (mdC m).2 i < 4000) (hr : rLab (mdC m).2 eE b (lbB (mdC m).2 i) (rnS swM σ)) (h : PX m ((f, j, L, c :: r) :: fs, [], e, tk, 0, sp) σ) (hb : brH (mdC m).2 b r) (hQ0 : c.toInt32 = 0 → ∀ σ', σ'.2.2 = σ.2.2 → Fr sCt σ σ' → PX m ((f, j, L, r) :: fs, [], e, tk, 0, sp) σ' → Q σ') (hQ : ¬ c.toInt32 = 0 → ∀ σ', σ'.2.2 = σ.2.2 → Fr sCt σ σ' → PX m (brF (mdC m).2 eE b f L r :: fs, [], e, tk, 0, sp) σ' → Q σ') : Dv (d + 4) 112 [.ref 56, .int (nI (iOp I)), .int (nI i)] σ Q := by
  have hi := hX.i4 hI
  refine x_low (d := d + 2) hX hI (by omega) ?_
  have hf := (hX.fst hI).1 (by unfold isBr; omega)
  rw [h13]
  refine S_Machine_control (Q := Qv _) hX.2.2.2.2.1 ⟨by decide, vp_in_nI hi (by decide), ?_⟩
  rw [nI_clamp (n := i) (by omega), hf]
  have go : Dj (d + 2) 111 [.ref 56] σ (fun x5 σ4 => ((x5.toInt32 = 0 → Qv (fun σ' => σ'.2.2 = σ.2.2 ∧ Q σ') none (sW σ4 σ)) ∧ (¬ x5.toInt32 = 0 → (Dv (d + 2) 114 [.ref 56, .int (nI (lbB (mdC m).2 i))] (sW σ4 σ) (fun σ6 => Qv (fun σ' => σ'.2.2 = σ.2.2 ∧ Q σ') none (sW σ6 σ)))))) := by
    refine x_pop h.ox fun σ1 e1 f1 o1 => ?_
    simp only [sW_eq e1]
    have p1 : PX m ((f, j, L, r) :: fs, [], e, tk, 0, sp) σ1 := h.op f1 o1 rfl
    have fc := f1.mono fun _ _ => sOp_ct
    refine ⟨fun z => ⟨e1, hQ0 z σ1 e1 fc p1⟩, fun z => ?_⟩
    have hr1 : rLab (mdC m).2 eE b (lbB (mdC m).2 i) (rnS swM σ1) := hr.eq fun j => (f1 23 j rfl).1
    refine PX.br (hX.fo f1) hl hr1 p1 hb.1 hb.2.1 hb.2.2.1 hb.2.2.2 fun σ2 e2 f2 p2 => ?_
    rw [sW_eq (e2.trans e1)]
    exact ⟨e2.trans e1, hQ z σ2 (e2.trans e1) (fc.tr f2) p2⟩
  repeat' apply And.intro
  all_goals first | exact trivial | (intro z; first | exact absurd z (by decide) | skip)
  all_goals exact go
theorem x_14 {c : Int64} {r : List Int64} (hX : SX t n m σ) (hI : (mdC m).2[i]? = some I) (h14 : iOp I = 14) (hs : iS I ≤ 99) (hl : lbB (mdC m).2 i + min (lo32 c) (iS I) < 4000) (hr : rLab (mdC m).2 eE b (lbB (mdC m).2 i + min (lo32 c) (iS I)) (rnS swM σ)) (h : PX m ((f, j, L, c :: r) :: fs, [], e, tk, 0, sp) σ) (hb : brH (mdC m).2 b r) (hQ : ∀ σ', σ'.2.2 = σ.2.2 → Fr sCt σ σ' → PX m (brF (mdC m).2 eE b f L r :: fs, [], e, tk, 0, sp) σ' → Q σ') : Dv (d + 4) 112 [.ref 56, .int (nI (iOp I)), .int (nI i)] σ Q := by
  have hi := hX.i4 hI
  refine x_low (d := d + 2) hX hI (by omega) ?_
  have hf := (hX.fst hI).1 (by unfold isBr; omega)
  have h22 : σ.1 22 i = nI (iS I) := (hX.row hI).2.2 (by omega)
  have hlo : lo32 c < 2 ^ 32 := Nat.mod_lt _ (by decide)
  rw [h14]
  refine S_Machine_control (Q := Qv _) hX.2.2.2.2.1 ⟨by decide, vp_in_nI hi (by decide), ?_⟩
  rw [nI_clamp (n := i) (by omega), hf]
  have go : Dj (d + 2) 111 [.ref 56] σ (fun x8 σ7 => (¬ (16 : Nat) = 0 ∧ (vp_in (nI i) 4000 ∧ (Dv (d + 2) 114 [.ref 56, .int ((nI (lbB (mdC m).2 i)) + ((if (((sW σ7 σ).1 22 i).toInt64) < (x8 &&& (Int64.ofNat 4294967295)) then (((sW σ7 σ).1 22 i).toInt64) else (x8 &&& (Int64.ofNat 4294967295))).toInt32))] (sW σ7 σ) (fun σ9 => Qv (fun σ' => σ'.2.2 = σ.2.2 ∧ Q σ') none (sW σ9 σ)))))) := by
    refine x_pop h.ox fun σ1 e1 f1 o1 => ?_
    simp only [sW_eq e1]
    have p1 : PX m ((f, j, L, r) :: fs, [], e, tk, 0, sp) σ1 := h.op f1 o1 rfl
    have fc := f1.mono fun _ _ => sOp_ct
    have k22 : σ1.1 22 i = nI (iS I) := (f1 _ _ rfl).1.trans h22
    have hmin : (if (lN (iS I)) < lN (lo32 c) then lN (iS I) else lN (lo32 c)).toInt32 = nI (min (lo32 c) (iS I)) := by
      by_cases z : iS I < lo32 c
      · rw [if_pos ((pk_lLT (by omega) (by omega)).mpr z), lN_i, Nat.min_eq_right (by omega)]
      · rw [if_neg fun y => z ((pk_lLT (by omega) (by omega)).mp y), lN_i, Nat.min_eq_left (by omega)]
    rw [k22, nI_l (by omega), and32, hmin, nI_add]
    refine ⟨by decide, vp_in_nI hi (by decide), ?_⟩
    have hr1 : rLab (mdC m).2 eE b (lbB (mdC m).2 i + min (lo32 c) (iS I)) (rnS swM σ1) := hr.eq fun j => (f1 23 j rfl).1
    refine PX.br (hX.fo f1) hl hr1 p1 hb.1 hb.2.1 hb.2.2.1 hb.2.2.2 fun σ2 e2 f2 p2 => ?_
    rw [sW_eq (e2.trans e1)]
    exact ⟨e2.trans e1, hQ σ2 (e2.trans e1) (fc.tr f2) p2⟩
  repeat' apply And.intro
  all_goals first | exact trivial | (intro z; first | exact absurd z (by decide) | skip)
  all_goals exact go
/-- what stands at a label's block -/
theorem br_at (h : okFn t n m f) (h1 : fiS (fiAt m f) ≤ i) (h2 : i ≤ fiE (fiAt m f)) (hJ : jB J = jB (jAt t m f i)) (hb : jBk J lab = some b) :
    (bkO b = none ∧ bkF b = 0 ∧ bkG b = gvF m f) ∨ ∃ o I, bkO b = some o ∧ (mdC m).2[o]? = some I ∧ opC (mdC m).2 o = iOp I ∧ (2 ≤ iOp I ∧ iOp I ≤ 4) ∧ fiS (fiAt m f) ≤ o ∧ o < i ∧ endI (mdC m).2 o < fiE (fiAt m f) ∧ fiS (fiAt m f) ≤ endI (mdC m).2 o ∧ opC (mdC m).2 (endI (mdC m).2 o) = 11 ∧ sk (mdC m).2 (endI (mdC m).2 o) ≠ [] ∧ (jB (jAt t m f (o + 1))).length ≤ (jB (jAt t m f i)).length ∧ (jB (jAt t m f (endI (mdC m).2 o + 1))).length + 1 ≤ (jB (jAt t m f i)).length := by
  obtain ⟨k, hk1, hk2, hk3⟩ := jIx_some hb
  rw [hJ] at hk2 hk3
  cases ho : bkO b with
  | none =>
    have hk0 : k = 0 := by
      have hsk := h.skj h1 h2
      have hjo : (jO (jAt t m f i))[k]? = some none := by
        unfold jO
        rw [List.getElem?_map, hk2, ← ho]
        rfl
      rw [hsk] at hjo
      cases k with
      | zero => rfl
      | succ k =>
        unfold skO2 at hjo
        rw [List.getElem?_cons_succ, List.getElem?_map] at hjo
        obtain ⟨a, -, ha2⟩ := Option.map_eq_some_iff.mp hjo
        cases ha2
    subst hk0
    obtain ⟨v, hv⟩ := h.fb h1 h2
    rw [hk2] at hv
    have eb := Option.some.inj hv
    exact .inl ⟨rfl, by rw [eb]; rfl, by rw [eb]; rfl⟩
  | some o =>
    obtain ⟨I, c1, c2, c3, c4, c5, c6, -⟩ := h.blk h1 h2 hk2 ho
    obtain ⟨⟨r1, r2, r3, x, r4⟩, -⟩ := h.reg c3 (by omega) c1 c2
    have e1 := h.opn c3 (by omega) c1 c2
    have e2 := (h.aft c3 (by omega) c1 c2).1
    refine .inr ⟨o, I, rfl, c1, opC_get c1, c2, c3, c4, r2, by omega, r3, by rw [r4]; simp, ?_, ?_⟩
    · rw [e1]
      show (jB (jAt t m f o) ++ [_]).length ≤ _
      rw [List.length_append, List.length_singleton]
      omega
    · rw [e2]
      show (jB (jAt t m f o)).length + 1 ≤ _
      omega
/-- from a label on -/
theorem w_brk (hX : SX t n m σ) (hf : okFn t n m f) (h1 : fiS (fiAt m f) ≤ i) (h2 : i ≤ fiE (fiAt m f)) (hJ : jB J = jB (jAt t m f i)) (hb : jBk J lab = some b) (hH : brH (mdC m).2 b S) (hT : T < 1000000) (h : PX m (brF (mdC m).2 (fiE (fiAt m f)) b f L S :: fs, [], e, tk, 0, false) σ) (hfs : fs.length ≤ 63) (htk : tk ≤ 20000) (hN : N ≤ 20000) (htN : tk ≤ N) (hL : fsL m fs)
    (hk : ∀ dt σ', dt ≤ 1 → (sF (aBr m J lab ((f, j, L, S) :: fs, [], e, tk, 0, false)) ≠ [] → 1 + dt + mu t m N (aBr m J lab ((f, j, L, S) :: fs, [], e, tk, 0, false)) ≤ 2 * (N - tk) + 2 + potJ t m ((f, i, L, S) :: fs)) → σ'.2.2 = σ.2.2 → Fr sRun σ σ' → PX m (aBr m J lab ((f, j, L, S) :: fs, [], e, tk, 0, false)) σ' → W3 (d + 3) N v4 0 (T + dt) σ' QQ) : W3 (d + 3) N v4 0 T σ QQ := by
  have eA : aBr m J lab ((f, j, L, S) :: fs, [], e, tk, 0, false) = (match bkO b with
      | none => aLv m ((f, j, L, S) :: fs, [], e, tk, 0, false)
      | some o => ((f, (if opC (mdC m).2 o = 3 then o + 1 else endI (mdC m).2 o + 1), L, (if bCar (mdC m).2 b = 0 then [] else S.take 1) ++ S.drop (S.length - bkF b)) :: fs, [], e, tk, 0, false)) := by
    unfold aBr
    show (match jBk J lab with | none => _ | some b => _) = _
    rw [hb]
    rfl
  have hpp : 0 < (jB (jAt t m f i)).length := by
    obtain ⟨k, -, hk2, -⟩ := jIx_some hb
    rw [hJ] at hk2
    have := get_lt hk2
    omega
  have hmu : ∀ (x : Fm) (ys : List Fm), mu t m N (x :: ys, [], e, tk, 0, false) = 2 * (N - tk) + ((jB (jAt t m x.1 x.2.1)).length + potJ t m ys) := fun _ _ => rfl
  have hpo : potJ t m ((f, i, L, S) :: fs) = (jB (jAt t m f i)).length + potJ t m fs := rfl
  rw [eA] at hk
  rcases br_at hf h1 h2 hJ hb with ⟨c1, c2, c3⟩ | ⟨o, I, c1, c2, c3, c4, c5, c6, c7, c8, c9, c10, c11, c12⟩
  · rw [c1] at hk
    have hk : ∀ dt σ', dt ≤ 1 → (sF (aLv m ((f, j, L, S) :: fs, [], e, tk, 0, false)) ≠ [] → 1 + dt + mu t m N (aLv m ((f, j, L, S) :: fs, [], e, tk, 0, false)) ≤ 2 * (N - tk) + 2 + potJ t m ((f, i, L, S) :: fs)) → σ'.2.2 = σ.2.2 → Fr sRun σ σ' → PX m (aLv m ((f, j, L, S) :: fs, [], e, tk, 0, false)) σ' → W3 (d + 3) N v4 0 (T + dt) σ' QQ := hk
    obtain ⟨-, I9, s4, s5, s6⟩ := hf.rd.1
    have hE := hf.fF
    have hcar : bCar (mdC m).2 b = 0 ↔ gvF m f = 0 := by
      unfold bCar jLoop
      rw [c1, c3]
      by_cases z : gvF m f = 0
      · rw [if_pos (.inr z)]
        exact ⟨fun _ => z, fun _ => rfl⟩
      · rw [if_neg (by rintro (w | w); cases w; exact z w)]
        exact ⟨fun w => (by cases w), fun w => absurd w z⟩
    have hbt : bTgt (mdC m).2 (fiE (fiAt m f)) b = fiE (fiAt m f) := by
      unfold bTgt
      rw [c1]
    unfold brF at h
    rw [hbt, c2] at h
    have hdr : S.drop (S.length - 0) = [] := by rw [Nat.sub_zero]; exact List.drop_length
    rw [hdr, List.append_nil] at h
    have eL : aLv m ((f, fiE (fiAt m f), L, if bCar (mdC m).2 b = 0 then [] else S.take 1) :: fs, [], e, tk, 0, false) = aLv m ((f, j, L, S) :: fs, [], e, tk, 0, false) := by
      have : (if gvF m f = 0 then [] else (if bCar (mdC m).2 b = 0 then [] else S.take 1).take 1) = (if gvF m f = 0 then [] else S.take 1) := by
        by_cases z : gvF m f = 0
        · rw [if_pos z, if_pos z]
        · rw [if_neg z, if_neg z, if_neg fun w => z (hcar.mp w), List.take_take]
          rfl
      cases fs with
      | nil =>
        show (_, (if gvF m f = 0 then [] else (if bCar (mdC m).2 b = 0 then [] else S.take 1).take 1) ++ [], _) = _
        rw [this]
        rfl
      | cons y ys =>
        obtain ⟨f2, i2, L2, S2⟩ := y
        show ((_, _, _, (if gvF m f = 0 then [] else (if bCar (mdC m).2 b = 0 then [] else S.take 1).take 1) ++ S2) :: ys, _) = _
        rw [this]
        rfl
    refine w_t11 hX hf hT h hfs hE.1 (Nat.le_refl _) s4 s5 htk hN (fun _ z => ?_) hL fun σ1 e1 f1 p1 => ?_
    · rw [if_neg fun w => z (hcar.mp w)]
      obtain ⟨v, r, rfl⟩ := hH.2.2.1 fun w => z (hcar.mp w)
      exact ⟨v, [], rfl⟩
    · rw [if_pos s6, eL] at p1
      refine hk 1 σ1 (Nat.le_refl _) (fun hne => ?_) e1 f1 p1
      cases fs with
      | nil => exact absurd rfl hne
      | cons y ys =>
        obtain ⟨f2, i2, L2, S2⟩ := y
        show 1 + 1 + (2 * (N - tk) + ((jB (jAt t m f2 i2)).length + potJ t m ys)) ≤ 2 * (N - tk) + 2 + ((jB (jAt t m f i)).length + ((jB (jAt t m f2 i2)).length + potJ t m ys))
        omega
  · rw [c1] at hk
    have hbt : bTgt (mdC m).2 (fiE (fiAt m f)) b = if opC (mdC m).2 o = 3 then o + 1 else endI (mdC m).2 o := by
      unfold bTgt
      rw [c1]
    unfold brF at h
    rw [hbt] at h
    by_cases z : opC (mdC m).2 o = 3
    · rw [if_pos z] at h
      simp only [if_pos z] at hk
      refine hk 0 σ (by omega) (fun _ => ?_) rfl Fr.rf h
      rw [hmu, hpo]
      show 1 + 0 + (2 * (N - tk) + ((jB (jAt t m f (o + 1))).length + potJ t m fs)) ≤ _
      omega
    · rw [if_neg z] at h
      simp only [if_neg z] at hk
      have hlt : endI (mdC m).2 o < (mdC m).2.length := Nat.lt_trans c7 hf.fF.2.1
      have hI2 : (mdC m).2[endI (mdC m).2 o]? = some (mdC m).2[endI (mdC m).2 o] := List.getElem?_eq_getElem hlt
      rw [opC_get hI2] at c9
      refine w_t11 hX hf hT h hfs c8 (by omega) hI2 c9 htk hN (fun w => absurd w c10) hL fun σ1 e1 f1 p1 => ?_
      rw [if_neg c10] at p1
      refine hk 1 σ1 (Nat.le_refl _) (fun _ => ?_) e1 f1 p1
      rw [hmu, hpo]
      show 1 + 1 + (2 * (N - tk) + ((jB (jAt t m f (endI (mdC m).2 o + 1))).length + potJ t m fs)) ≤ _
      omega
end SIMX2
