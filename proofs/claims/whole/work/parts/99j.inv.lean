/-! RUNNING, in the middle: a run goes on well -/
/-- all values of open CALLS, the top one first: as the class has them; the operands alone, as the reference has them -/
def fl : List Fm → List Int64
  | [] => []
  | x :: fs => x.2.2.2 ++ (x.2.2.1.reverse ++ fl fs)
def ol : List Fm → List Int64
  | [] => []
  | x :: fs => x.2.2.2 ++ ol fs
def frOk (t : Nat → UInt8) (n : Nat) (m : Md) (f i : Nat) (L S : List Int64) (pe : List Nat) : Prop := okFn t n m f ∧ fiS (fiAt m f) ≤ i ∧ i ≤ fiE (fiAt m f) ∧ lv (jAt t m f i) ∧ loOk t m f L ∧ ∃ T, jT (jAt t m f i) = T ++ pe ∧ tyd S T
def fsOk (t : Nat → UInt8) (n : Nat) (m : Md) : List Nat → List Fm → Prop
  | _, [] => True
  | pe, x :: fs => frOk t n m x.1 x.2.1 x.2.2.1 x.2.2.2 pe ∧ fsOk t n m (gvL (gvF m x.1)) fs
def hSus (tk : Nat) : List Fm → Prop
  | [] => True
  | x :: fs => (fl (x :: fs)).length + 1 ≤ 8 + tk + 50 * (fs.length + 1) ∧ hSus tk fs
def hOk (tk : Nat) : List Fm → Prop
  | [] => True
  | x :: fs => (fl (x :: fs)).length ≤ 8 + tk + 50 * (fs.length + 1) ∧ hSus tk fs
def botF (fs : List Fm) : Option Nat := fs.getLast?.map fun x => x.1
/-- a run that goes on -/
def RI (t : Nat → UInt8) (n : Nat) (m : Md) (N f0 : Nat) (s : St) : Prop := sF s ≠ [] ∧ fsOk t n m [] (sF s) ∧ hOk (sK s) (sF s) ∧ sR2 s = [] ∧ (sF s).length ≤ 64 ∧ evOk m (sE s) ∧ sK s ≤ N ∧ sT s = 0 ∧ sS s = false ∧ botF (sF s) = some f0
/-- a run that has ended -/
def RE (m : Md) (N f0 : Nat) (s : St) : Prop := stop s ∧ evOk m (sE s) ∧ sK s ≤ N ∧ (sF s = [] → sT s = 0 ∧ sS s = false ∧ (gvF m f0 ≠ 0 → ∃ v, sR2 s = [v]) ∧ (gvF m f0 = 0 → sR2 s = []))
theorem gvL_len (g : Nat) : (gvL g).length ≤ 1 := by
  unfold gvL
  split
  · exact Nat.zero_le _
  · exact Nat.le_refl _
theorem botF_cons {x y : Fm} {ys : List Fm} : botF (x :: y :: ys) = botF (y :: ys) := rfl
theorem botF_eq {x y : Fm} {ys : List Fm} (h : x.1 = y.1) : botF (x :: ys) = botF (y :: ys) := by
  cases ys with
  | nil => exact congrArg some h
  | cons z zs => rfl
section INV
variable {t : Nat → UInt8} {n N f0 f i tk : Nat} {m : Md} {L S : List Int64} {e : Env} {fs : List Fm}
theorem hSus.mono {tk2 : Nat} (hk : tk ≤ tk2) : ∀ {fs : List Fm}, hSus tk fs → hSus tk2 fs
  | [], _ => trivial
  | _ :: _, h => ⟨Nat.le_trans h.1 (by omega), hSus.mono hk h.2⟩
theorem RI_cur {i2 tk2 : Nat} {L2 S2 : List Int64} {e2 : Env} (h : RI t n m N f0 ((f, i, L, S) :: fs, [], e, tk, 0, false)) (h1 : frOk t n m f i2 L2 S2 []) (hL : L2.length = L.length) (hS : S2.length + tk ≤ S.length + tk2) (hk : tk ≤ tk2) (hN : tk2 ≤ N) (he : evOk m e2) : RI t n m N f0 ((f, i2, L2, S2) :: fs, [], e2, tk2, 0, false) := by
  obtain ⟨a1, a2, a3, a4, a5, a6, a7, a8, a9, a10⟩ := h
  have a10 : botF ((f, i, L, S) :: fs) = some f0 := a10
  have a3 : hOk tk ((f, i, L, S) :: fs) := a3
  refine ⟨fun z => (by cases z), ⟨h1, a2.2⟩, ⟨?_, a3.2.mono hk⟩, rfl, a5, he, hN, rfl, rfl, ?_⟩
  · have h9 : (S ++ (L.reverse ++ fl fs)).length ≤ 8 + tk + 50 * (fs.length + 1) := a3.1
    show (S2 ++ (L2.reverse ++ fl fs)).length ≤ 8 + tk2 + 50 * (fs.length + 1)
    rw [List.length_append, List.length_append, List.length_reverse] at h9 ⊢
    omega
  · unfold botF at a10 ⊢
    have a10 : (((f, i, L, S) :: fs).getLast?).map (fun x => x.1) = some f0 := a10
    show (((f, i2, L2, S2) :: fs).getLast?).map (fun x => x.1) = some f0
    cases fs with
    | nil => exact a10
    | cons y ys => exact a10
theorem RI_lv (h : RI t n m N f0 ((f, i, L, S) :: fs, [], e, tk, 0, false)) (hv : tyd (if gvF m f = 0 then [] else S.take 1) (gvL (gvF m f))) : RI t n m N f0 (aLv m ((f, i, L, S) :: fs, [], e, tk, 0, false)) ∨ RE m N f0 (aLv m ((f, i, L, S) :: fs, [], e, tk, 0, false)) := by
  obtain ⟨a1, a2, a3, a4, a5, a6, a7, a8, a9, a10⟩ := h
  have a10 : botF ((f, i, L, S) :: fs) = some f0 := a10
  have a3 : hOk tk ((f, i, L, S) :: fs) := a3
  have hlen := hv.len
  have hg1 := gvL_len (gvF m f)
  cases fs with
  | nil =>
    refine .inr ⟨.inl rfl, a6, a7, fun _ => ⟨rfl, rfl, fun hg => ?_, fun hg => ?_⟩⟩
    · have e0 : f = f0 := Option.some.inj a10
      subst e0
      show ∃ v, (if gvF m f = 0 then [] else S.take 1) ++ [] = [v]
      rw [List.append_nil]
      unfold gvL at hv
      rw [if_neg hg, if_neg hg] at hv
      rw [if_neg hg]
      obtain ⟨v, r, e1, -, hr⟩ := (show tyd _ ([] ++ [gvF m f]) from hv).un
      have hr0 : r = [] := List.eq_nil_of_length_eq_zero hr.len
      exact ⟨v, by rw [e1, hr0]⟩
    · have e0 : f = f0 := Option.some.inj a10
      subst e0
      show (if gvF m f = 0 then [] else S.take 1) ++ [] = []
      rw [if_pos hg]
      rfl
  | cons y ys =>
    obtain ⟨f2, i2, L2, S2⟩ := y
    show RI t n m N f0 ((f2, i2, L2, (if gvF m f = 0 then [] else S.take 1) ++ S2) :: ys, [], e, tk, 0, false) ∨ _
    refine .inl ⟨fun z => (by cases z), ⟨?_, a2.2.2⟩, ⟨?_, a3.2.2⟩, rfl, Nat.le_of_succ_le a5, a6, a7, rfl, rfl, by rw [← a10, botF_cons]; exact botF_eq rfl⟩
    · obtain ⟨b1, b2, b3, b4, b5, T, b6, b7⟩ := a2.2.1
      refine ⟨b1, b2, b3, b4, b5, _, (List.append_nil _).symm, ?_⟩
      show tyd ((if gvF m f = 0 then [] else S.take 1) ++ S2) (jT (jAt t m f2 i2))
      have b6 : jT (jAt t m f2 i2) = T ++ gvL (gvF m f) := b6
      rw [b6]
      unfold gvL at hv ⊢
      by_cases z : gvF m f = 0
      · rw [if_pos z, if_pos z, List.append_nil]
        exact b7
      · rw [if_neg z] at hv ⊢
        rw [if_neg z] at hv ⊢
        obtain ⟨v, r, e1, hv2, hr⟩ := (show tyd _ ([] ++ [gvF m f]) from hv).un
        have hr0 : r = [] := List.eq_nil_of_length_eq_zero hr.len
        rw [e1, hr0]
        exact b7.snoc hv2
    · have h9 : (S2 ++ (L2.reverse ++ fl ys)).length + 1 ≤ 8 + tk + 50 * (ys.length + 1) := a3.2.1
      show (((if gvF m f = 0 then [] else S.take 1) ++ S2) ++ (L2.reverse ++ fl ys)).length ≤ 8 + tk + 50 * (ys.length + 1)
      rw [List.append_assoc, List.length_append]
      omega
/-- a CALL from a CALL -/
theorem RI_en {g : Nat} {T : List Nat} (h : RI t n m N f0 ((f, i, L, S) :: fs, [], e, tk, 0, false)) (hg : okFn t n m g) (hi : frOk t n m f (i + 1) L (S.drop (tyAt m (fnTy m g)).2.1) (gvL (gvF m g))) (hS : tyd S (T ++ agL t (tyAt m (fnTy m g)) (tyAt m (fnTy m g)).2.1)) (hk : tk + 1 ≤ N) : RI t n m N f0 (aEn m g ((f, i + 1, L, S) :: fs, [], e, tk + 1, 0, false)) ∨ RE m N f0 (aEn m g ((f, i + 1, L, S) :: fs, [], e, tk + 1, 0, false)) := by
  obtain ⟨a1, a2, a3, a4, a5, a6, a7, a8, a9, a10⟩ := h
  have a10 : botF ((f, i, L, S) :: fs) = some f0 := a10
  have a3 : hOk tk ((f, i, L, S) :: fs) := a3
  obtain ⟨n1, n2⟩ := new_lo hg hS
  unfold aEn
  by_cases z : (sF ((f, i + 1, L, S) :: fs, [], e, tk + 1, 0, false)).length = 64
  · rw [if_pos z]
    exact .inr ⟨.inr (.inl (by show 8 ≠ 0; decide)), a6, hk, fun w => by cases w⟩
  · rw [if_neg z]
    have hl0 : (fiAt m g).1.length ≤ 50 := (hg.F.2.2.2 _ (List.mem_of_getElem? (fiAt_get hg.fl))).1
    have hlen := hS.len
    rw [List.length_append, agL_len] at hlen
    have h9 : (S ++ (L.reverse ++ fl fs)).length ≤ 8 + tk + 50 * (fs.length + 1) := a3.1
    rw [List.length_append] at h9
    have h64 : fs.length + 1 ≤ 64 := a5
    have z : ¬ fs.length + 1 = 64 := z
    have hE := hg.fF.1
    have hs : hSus (tk + 1) fs := a3.2.mono (by omega)
    show RI t n m N f0 (newF m g S :: (f, i + 1, L, S.drop (tyAt m (fnTy m g)).2.1) :: fs, [], e, tk + 1, 0, false) ∨ _
    refine .inl ⟨fun w => (by cases w), ⟨?_, hi, a2.2⟩, ⟨?_, ?_, hs⟩, rfl, by show fs.length + 1 + 1 ≤ 64; omega, a6, hk, rfl, rfl, by rw [← a10]; show botF (newF m g S :: (f, i + 1, L, S.drop (tyAt m (fnTy m g)).2.1) :: fs) = _; rw [botF_cons]; exact botF_eq rfl⟩
    · refine ⟨hg, Nat.le_refl _, hE, ?_, n1, [], ?_, trivial⟩
      · have h0 := hg.jo (Nat.le_refl _) hE
        have e0 := hg.st0
        have e1 : (newF m g S).2.1 = fiS (fiAt m g) := rfl
        show lv (jAt t m g (fiS (fiAt m g)))
        rw [e0] at h0 ⊢
        refine ⟨h0, rfl, Nat.zero_lt_one, fun b hb => ?_, fun x hx => by cases hx⟩
        rw [List.mem_singleton.mp hb]
        rfl
      · show jT (jAt t m g (fiS (fiAt m g))) = _
        rw [hg.st0]
        rfl
    · show ([] ++ (((S.take (tyAt m (fnTy m g)).2.1).reverse ++ List.replicate (fiAt m g).1.length 0).reverse ++ (S.drop (tyAt m (fnTy m g)).2.1 ++ (L.reverse ++ fl fs)))).length ≤ 8 + (tk + 1) + 50 * (fs.length + 1 + 1)
      rw [List.nil_append, List.length_append, List.length_reverse, List.length_append, List.length_reverse, List.length_take, List.length_replicate, List.length_append, List.length_drop]
      omega
    · show (S.drop (tyAt m (fnTy m g)).2.1 ++ (L.reverse ++ fl fs)).length + 1 ≤ 8 + (tk + 1) + 50 * (fs.length + 1)
      rw [List.length_append, List.length_drop]
      omega
/-- to a label, from a state where all is alive -/
theorem RI_br {J : JS} {lab due tk2 i2 : Nat} {T : List Nat} {b : Bk} {S2 : List Int64} (h : RI t n m N f0 ((f, i, L, S) :: fs, [], e, tk, 0, false)) (hJ : jB J = jB (jAt t m f i)) (hT : jT J = T ++ gvL due) (hP : ∃ R, jT (jAt t m f i) = T ++ R) (hF : bkF b ≤ T.length) (hS : tyd S2 (jT J)) (hb : jBk J lab = some b) (hd : bNeed (mdC m).2 b = due) (hl2 : S2.length + tk ≤ S.length + tk2) (hk : tk ≤ tk2) (hN : tk2 ≤ N) : RI t n m N f0 (aBr m J lab ((f, i2, L, S2) :: fs, [], e, tk2, 0, false)) ∨ RE m N f0 (aBr m J lab ((f, i2, L, S2) :: fs, [], e, tk2, 0, false)) := by
  have h0 := h
  obtain ⟨a1, a2, a3, a4, a5, a6, a7, a8, a9, a10⟩ := h
  have a10 : botF ((f, i, L, S) :: fs) = some f0 := a10
  have a3 : hOk tk ((f, i, L, S) :: fs) := a3
  obtain ⟨b1, b2, b3, b4, b5, -⟩ := a2.1
  have b1 : okFn t n m f := b1
  have b2 : fiS (fiAt m f) ≤ i := b2
  have b3 : i ≤ fiE (fiAt m f) := b3
  have b4 : lv (jAt t m f i) := b4
  obtain ⟨k, hk1, hk2, hk3⟩ := jIx_some hb
  rw [hJ] at hk2 hk3
  rw [hT] at hS
  obtain ⟨c1, c2, c3, c4, c5⟩ := car_ty (b := b) hS hd hF
  have hdr : (S2.drop (S2.length - bkF b)).length = bkF b := by
    rw [List.length_drop]
    omega
  have hcar : ((if bCar (mdC m).2 b = 0 then [] else S2.take 1) ++ S2.drop (S2.length - bkF b)).length ≤ S2.length := by
    have h7 := hS.len
    rw [List.length_append] at h7
    rw [List.length_append, hdr]
    by_cases z : bCar (mdC m).2 b = 0
    · rw [if_pos z]
      show 0 + _ ≤ _
      omega
    · rw [if_neg z]
      obtain ⟨v, r, e1⟩ := c2 z
      have hd1 : (gvL due).length = 1 := by
        unfold gvL
        rw [if_neg fun w => z (c3.mpr w)]
        rfl
      have : (S2.take 1).length = 1 := by rw [e1]; rfl
      omega
  unfold aBr
  show RI t n m N f0 (match jBk J lab with | none => _ | some b => _) ∨ RE m N f0 (match jBk J lab with | none => _ | some b => _)
  rw [hb]
  show RI t n m N f0 (match bkO b with | none => _ | some o => _) ∨ RE m N f0 (match bkO b with | none => _ | some o => _)
  cases ho : bkO b with
  | none =>
    have hk0 : k = 0 := by
      have hsk := b1.skj b2 b3
      have hjo : (jO (jAt t m f i))[k]? = some none := by
        unfold jO
        rw [List.getElem?_map, hk2, ← ho]
        rfl
      rw [hsk] at hjo
      cases k with
      | zero => rfl
      | succ k =>
        unfold skO2 at hjo
        rw [List.getElem?_cons_succ, List.getElem?_map] at hjo
        obtain ⟨a, -, ha2⟩ := Option.map_eq_some_iff.mp hjo
        cases ha2
    subst hk0
    obtain ⟨v, hv⟩ := b1.fb b2 b3
    rw [hk2] at hv
    have eb := Option.some.inj hv
    have hlp : jLoop (mdC m).2 b = false := by
      unfold jLoop
      rw [ho]
    have hgd : gvF m f = due := by
      rw [← hd]
      unfold bNeed
      rw [hlp, eb]
      rfl
    have h1 : RI t n m N f0 ((f, i, L, if gvF m f = 0 then [] else S2.take 1) :: fs, [], e, tk2, 0, false) ∨ True := .inr trivial
    have hv2 : tyd (if gvF m f = 0 then [] else S2.take 1) (gvL (gvF m f)) := by
      rw [hgd]
      unfold gvL at hS ⊢
      by_cases z : due = 0
      · rw [if_pos z, if_pos z]
        exact trivial
      · rw [if_neg z] at hS
        rw [if_neg z, if_neg z]
        obtain ⟨v, r, rfl, hv, hr⟩ := hS.un
        exact ⟨hv, trivial⟩
    -- the end of the CALL does not look at where it stands, nor at what is below
    have hle := RI_lv (t := t) (n := n) (N := N) (f0 := f0) (f := f) (i := i) (L := L) (S := S) (e := e) (tk := tk) (fs := fs) (m := m) h0
    cases fs with
    | nil =>
      have e0 : f = f0 := Option.some.inj a10
      subst e0
      refine .inr ⟨.inl rfl, a6, hN, fun _ => ⟨rfl, rfl, fun hg => ?_, fun hg => ?_⟩⟩
      · show ∃ v, (if gvF m f = 0 then [] else S2.take 1) ++ [] = [v]
        rw [List.append_nil]
        unfold gvL at hv2
        rw [if_neg hg, if_neg hg] at hv2
        rw [if_neg hg]
        obtain ⟨v, r, e1, -, hr⟩ := (show tyd _ ([] ++ [gvF m f]) from hv2).un
        have hr0 : r = [] := List.eq_nil_of_length_eq_zero hr.len
        exact ⟨v, by rw [e1, hr0]⟩
      · show (if gvF m f = 0 then [] else S2.take 1) ++ [] = []
        rw [if_pos hg]
        rfl
    | cons y ys =>
      obtain ⟨f2, i3, L2, S3⟩ := y
      show RI t n m N f0 ((f2, i3, L2, (if gvF m f = 0 then [] else S2.take 1) ++ S3) :: ys, [], e, tk2, 0, false) ∨ _
      refine .inl ⟨fun z => (by cases z), ⟨?_, a2.2.2⟩, ⟨?_, a3.2.2.mono hk⟩, rfl, Nat.le_of_succ_le a5, a6, hN, rfl, rfl, by rw [← a10, botF_cons]; exact botF_eq rfl⟩
      · obtain ⟨d1, d2, d3, d4, d5, T2, d6, d7⟩ := a2.2.1
        refine ⟨d1, d2, d3, d4, d5, _, (List.append_nil _).symm, ?_⟩
        show tyd ((if gvF m f = 0 then [] else S2.take 1) ++ S3) (jT (jAt t m f2 i3))
        have d6 : jT (jAt t m f2 i3) = T2 ++ gvL (gvF m f) := d6
        rw [d6]
        unfold gvL at hv2 ⊢
        by_cases z : gvF m f = 0
        · rw [if_pos z, if_pos z, List.append_nil]
          exact d7
        · rw [if_neg z] at hv2 ⊢
          rw [if_neg z] at hv2 ⊢
          obtain ⟨v, r, e1, hv3, hr⟩ := (show tyd _ ([] ++ [gvF m f]) from hv2).un
          have hr0 : r = [] := List.eq_nil_of_length_eq_zero hr.len
          rw [e1, hr0]
          exact d7.snoc hv3
      · have h9 : (S3 ++ (L2.reverse ++ fl ys)).length + 1 ≤ 8 + tk + 50 * (ys.length + 1) := a3.2.1
        have hg1 := gvL_len (gvF m f)
        have hl9 := hv2.len
        show (((if gvF m f = 0 then [] else S2.take 1) ++ S3) ++ (L2.reverse ++ fl ys)).length ≤ 8 + tk2 + 50 * (ys.length + 1)
        rw [List.append_assoc, List.length_append]
        omega
  | some o =>
    obtain ⟨I, i1, i24, i3, i4, i5, i6, i7, i8, i9, i10⟩ := b1.blk b2 b3 hk2 ho
    obtain ⟨⟨r1, r2, r3, x, r4⟩, -⟩ := b1.reg i3 (by omega) i1 i24
    obtain ⟨R, hR⟩ := hP
    have hTT : (T ++ gvL due).take (bkF b) = jT (jAt t m f (o + 1)) := by
      rw [← i9, hR, List.take_append_of_le_length hF, List.take_append_of_le_length hF]
    rw [hTT] at c1
    have hBl : ∀ c ∈ jB (jAt t m f o), bkD c = false := fun c hc => b4.2.2.2.1 c (by rw [← i10] at hc; exact List.mem_of_mem_take hc)
    have hTl : ∀ y ∈ jT (jAt t m f (o + 1)), isT y := fun y hy => b4.2.2.2.2 y (by rw [← i9] at hy; exact List.mem_of_mem_take hy)
    show RI t n m N f0 ((f, (if opC (mdC m).2 o = 3 then o + 1 else endI (mdC m).2 o + 1), L, (if bCar (mdC m).2 b = 0 then [] else S2.take 1) ++ S2.drop (S2.length - bkF b)) :: fs, [], e, tk2, 0, false) ∨ _
    refine .inl (RI_cur h0 ?_ rfl (by omega) hk hN a6)
    have hoK := (b1.skj i3 (by omega : o ≤ fiE (fiAt m f))).len
    by_cases h3 : opC (mdC m).2 o = 3
    · rw [if_pos h3]
      have hlp : jLoop (mdC m).2 b = true := by
        unfold jLoop
        rw [ho]
        exact decide_eq_true h3
      have hd0 : due = 0 := by
        rw [← hd]
        unfold bNeed
        rw [if_pos hlp]
      have hop := b1.opn i3 (by omega) i1 i24
      refine ⟨b1, by omega, by omega, ?_, b5, _, (List.append_nil _).symm, ?_⟩
      · have hj := b1.jo (i := o + 1) (by omega) (by omega)
        refine ⟨hj, b1.goodAt (by omega) (by omega), (b1.skj (i := o + 1) (by omega) (by omega)).pos, fun c hc => ?_, hTl⟩
        rw [hop] at hc
        rcases List.mem_append.mp hc with w | w
        · exact hBl c w
        · rw [List.mem_singleton.mp w]
          rfl
      · rw [hd0] at c1
        have c1 : tyd _ (jT (jAt t m f (o + 1)) ++ []) := c1
        rw [List.append_nil] at c1
        exact c1
    · rw [if_neg h3]
      have hlp : ¬ jLoop (mdC m).2 b = true := by
        unfold jLoop
        rw [ho]
        exact fun w => h3 (of_decide_eq_true w)
      have hdg : due = iB I := by
        rw [← hd, ← i8]
        unfold bNeed
        rw [if_neg hlp]
      have haf := (b1.aft i3 (by omega) i1 i24).1
      refine ⟨b1, by omega, by omega, ?_, b5, _, (List.append_nil _).symm, ?_⟩
      · have hj := b1.jo (i := endI (mdC m).2 o + 1) (by omega) (by omega)
        refine ⟨hj, b1.goodAt (by omega) (by omega), (b1.skj (i := endI (mdC m).2 o + 1) (by omega) (by omega)).pos, fun c hc => ?_, fun y hy => ?_⟩
        · rw [haf] at hc
          exact hBl c hc
        · rw [haf] at hy
          rcases List.mem_append.mp hy with w | w
          · exact hTl y w
          · unfold gvL at w
            split at w
            · cases w
            next z =>
              rw [List.mem_singleton.mp w]
              rcases b1.bt i3 (by omega) i1 i24 with q | q
              · exact absurd q z
              · exact q
      · rw [haf, ← hdg]
        exact c1
end INV
