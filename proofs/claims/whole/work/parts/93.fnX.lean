/-! THE JUDGE OF A FUNCTION: all INSTRUCTIONS; the class -/
def fiAt (m : Md) (f : Nat) : Fi := ((mdC m).1[f]?).getD ([], 0, 0, 0)
def fiS (x : Fi) : Nat := x.2.2.1
def fiE (x : Fi) : Nat := x.2.2.2
def jRun (t : Nat → UInt8) (m : Md) (f : Nat) : Nat → Nat → JS → JS
  | 0, _, J => J
  | r + 1, i, J => if jG J = true then (match (mdC m).2[i]? with
    | some I => jRun t m f r (i + 1) (jI t m f i I J)
    | none => J) else J
def jSt0 (m : Md) (f : Nat) : JS := jOpen none (tyAt m (fnTy m f)).2.2 ([], [], true)
/-- the judge's state before INSTRUCTION i -/
def jAt (t : Nat → UInt8) (m : Md) (f i : Nat) : JS := jRun t m f (i - fiS (fiAt m f)) (fiS (fiAt m f)) (jSt0 m f)
def vFn (t : Nat → UInt8) (m : Md) (f : Nat) : Bool := jG (jAt t m f (fiE (fiAt m f) + 1))
/-- what a function's INSTRUCTIONS keep -/
def fF (C : List In) (x : Fi) : Prop := fiS x ≤ fiE x ∧ fiE x < C.length ∧ sk C (fiS x) = [] ∧ ∀ (i : Nat) (I : In), fiS x ≤ i → C[i]? = some I → i < fiE x → ¬ (iOp I = 11 ∧ sk C i = [])
def fC (C : List In) : Prop := (∀ I ∈ C, fI I) ∧ (lbs C).length ≤ 4000 ∧ ∀ i, (sk C i).length ≤ 20
theorem jRun_snoc {t : Nat → UInt8} {m : Md} {f : Nat} : ∀ (r i : Nat) (J : JS) (I : In), jG (jRun t m f r i J) = true → (mdC m).2[i + r]? = some I → jRun t m f (r + 1) i J = jI t m f (i + r) I (jRun t m f r i J)
  | 0, i, J, I, hg, hI => by
    have hg : jG J = true := hg
    have hI : (mdC m).2[i]? = some I := hI
    show jRun t m f 1 i J = jI t m f i I J
    rw [jRun, if_pos hg, hI]
    rfl
  | r + 1, i, J, I, hg, hI => by
    by_cases h1 : jG J = true
    · cases hi : (mdC m).2[i]? with
      | none =>
        have := get_lt hI
        have := List.getElem?_eq_none_iff.mp hi
        omega
      | some I0 =>
        have e1 : jRun t m f (r + 1) i J = jRun t m f r (i + 1) (jI t m f i I0 J) := by rw [jRun, if_pos h1, hi]
        have e2 : jRun t m f (r + 1 + 1) i J = jRun t m f (r + 1) (i + 1) (jI t m f i I0 J) := by rw [jRun, if_pos h1, hi]
        rw [e1] at hg
        rw [e2, e1]
        have := jRun_snoc r (i + 1) (jI t m f i I0 J) I hg (by rw [show i + 1 + r = i + (r + 1) by omega]; exact hI)
        rw [this, show i + 1 + r = i + (r + 1) by omega]
    · have e1 : jRun t m f (r + 1) i J = J := by rw [jRun, if_neg h1]
      rw [e1] at hg
      exact absurd hg h1
theorem lbB_succ {C : List In} {i : Nat} {I : In} (h : C[i]? = some I) : lbB C (i + 1) = lbB C i + (iL I).length := by
  unfold lbB lbs
  have hlt := get_lt h
  have e : C[i] = I := by
    rw [List.getElem?_eq_getElem hlt] at h
    exact Option.some.inj h
  rw [List.take_succ_eq_append_getElem hlt, List.flatMap_append, List.length_append, e]
  simp
theorem lbs_split {C : List In} {i : Nat} {I : In} (h : C[i]? = some I) : ∃ R, lbs C = lbs (C.take i) ++ (iL I ++ R) := by
  have hlt := get_lt h
  have e : C[i] = I := by
    rw [List.getElem?_eq_getElem hlt] at h
    exact Option.some.inj h
  refine ⟨lbs (C.drop (i + 1)), ?_⟩
  have h1 : C = C.take i ++ (I :: C.drop (i + 1)) := by
    rw [← e, ← List.drop_eq_getElem_cons hlt, List.take_append_drop]
  unfold lbs
  conv => lhs; rw [h1]
  rw [List.flatMap_append, List.flatMap_cons]
theorem lbs_get {C : List In} {i j lab : Nat} {I : In} (h : C[i]? = some I) (hj : (iL I)[j]? = some lab) : (lbs C)[lbB C i + j]? = some lab := by
  obtain ⟨R, hR⟩ := lbs_split h
  unfold lbB
  rw [hR, List.getElem?_append_right (by omega), Nat.add_sub_cancel_left, List.getElem?_append_left (get_lt hj)]
  exact hj
theorem lbB_le {C : List In} {i : Nat} {I : In} (h : C[i]? = some I) : lbB C i + (iL I).length ≤ (lbs C).length := by
  obtain ⟨R, hR⟩ := lbs_split h
  unfold lbB
  rw [hR, List.length_append, List.length_append]
  omega
theorem lbB_mono {C : List In} : ∀ {i j : Nat}, i ≤ j → lbB C i ≤ lbB C j := fun {i j} h => by
  unfold lbB lbs
  have : C.take j = C.take i ++ (C.take j).drop i := by
    conv => lhs; rw [← List.take_append_drop i (C.take j)]
    rw [List.take_take, Nat.min_eq_left h]
  rw [this, List.flatMap_append, List.length_append]
  omega
theorem jG_pop {due : Nat} {J : JS} (h : jG (jPop due J).2 = true) : jG J = true := by
  unfold jPop at h
  split at h
  · cases h
  · split at h
    · exact (Bool.and_eq_true _ _ ▸ h : _ ∧ _).1
    · exact (Bool.and_eq_true _ _ ▸ h : _ ∧ _).1
theorem jG_popG {due : Nat} {J : JS} (h : jG (jPopG due J) = true) : jG J = true := by
  unfold jPopG at h
  split at h
  · exact h
  · exact jG_pop h
theorem jG_push {ty : Nat} {J : JS} : jG (jPush ty J) = jG J := by
  unfold jPush
  split <;> rfl
theorem jG_pushG {ty : Nat} {J : JS} : jG (jPushG ty J) = jG J := by
  unfold jPushG
  split
  · rfl
  · exact jG_push
theorem jG_dead {J : JS} : jG (jDead J) = jG J := by
  unfold jDead
  split <;> rfl
theorem jG_br3 {op due : Nat} {J : JS} (h : jG (jBr3 op due J) = true) : jG J = true := by
  unfold jBr3 at h
  split at h
  · rw [jG_pushG] at h
    exact jG_popG h
  · rw [jG_dead] at h
    exact jG_popG h
/-- the labels of the function's branches before INSTRUCTION a are resolved -/
def rvd (t : Nat → UInt8) (m : Md) (f a : Nat) (σ : fkS) : Prop := ∀ (i : Nat) (I : In), fiS (fiAt m f) ≤ i → i < a → (mdC m).2[i]? = some I → isBr (iOp I) → resd (mdC m).2 (fiE (fiAt m f)) (jBr1 (iOp I) (jAt t m f i)) (iL I) (lbB (mdC m).2 i) (iL I).length σ
theorem sJb_lt {a b c j : Nat} (h : c < 44) : sJb a b c j = false := by
  unfold sJb
  rw [sJg_lt h, s44_c (by omega)]
  rfl
theorem sJb_44 {a b j : Nat} (h : j < 3 * a ∨ 3 * b ≤ j) : sJb a b 44 j = false := by
  unfold sJb
  rw [s44_out h, sJg44]
  rfl
theorem Fr.jb_mono {a b a2 b2 : Nat} {σ σ' : fkS} (h : Fr (sJb a b) σ σ') (h1 : a2 ≤ a) (h2 : b ≤ b2) : Fr (sJb a2 b2) σ σ' := h.mono fun c j q => by
  unfold sJb at q ⊢
  rw [Bool.or_eq_true] at q ⊢
  rcases q with q | q
  · exact .inl q
  · exact .inr (s44_mono h1 h2 c j q)
section FNX
variable {t : Nat → UInt8} {n d f : Nat} {m : Md}
theorem w_fn51 {σ0 : fkS} (hl : lenM m) (hf : fcM t n m) (hn4 : n ≤ 4000) (hX0 : KX t n m σ0) (hF : FX m f) (h502 : σ0.1 50 2 = nI f) (he : σ0.1 38 f = nI (fiE (fiAt m f))) (hC : fC (mdC m).2) (hfF : fF (mdC m).2 (fiAt m f))
    (hLO : ∀ j B, lbB (mdC m).2 (fiS (fiAt m f)) ≤ j → (lbs (mdC m).2)[j]? = some B → σ0.1 44 (3 * j) = nI B) :
    ∀ (r i : Nat) (J : JS) (σ : fkS), i + r = fiE (fiAt m f) + 1 → fiS (fiAt m f) ≤ i → jAt t m f i = J → jG (jRun t m f r i J) = vFn t m f → rJ J σ → (0 < r → skJ (mdC m).2 i J) → σ.2.2 = σ0.2.2 → Fr (sJb (lbB (mdC m).2 (fiS (fiAt m f))) (lbB (mdC m).2 i)) σ0 σ → (jG J = true → rvd t m f i σ) →
    Wq 67 (d + 5) 51 [some (.ref 50), some (.int (nI f)), some (.int (nI i))] [] σ (Qi fun x σ' => σ'.2.2 = σ0.2.2 ∧ x = b2i (vFn t m f) ∧ Fr (sJb (lbB (mdC m).2 (fiS (fiAt m f))) (lbB (mdC m).2 (fiE (fiAt m f) + 1))) σ0 σ' ∧ (vFn t m f = true → rvd t m f (fiE (fiAt m f) + 1) σ'))
  | r, i, J, σ, hir, hsi, hJ, hg, h, hsk, e0, f0, hr => by
    have hfu : f < 60 := by
      have := hF.1
      have : (mdU m).length ≤ 60 := hl.2.1
      omega
    have hEC := hfF.2.1
    have hC4 : (mdC m).2.length ≤ 4000 := hX0.2.2.2.2.2.2.1.1
    have hX : KX t n m σ := hX0.fr e0 f0 fun c j hc => sJb_lt hc
    have h38 : σ.1 38 f = nI (fiE (fiAt m f)) := (f0 38 f (sJb_lt (by decide))).1.trans he
    have h502σ : σ.1 50 2 = nI f := (f0 50 2 rfl).1.trans h502
    have h3 : σ.1 50 3 = b2i (jG J) := h.2.2.2.2.2
    have vf : vp_in (nI f) 60 := vp_in_nI hfu (by decide)
    refine S_Judge_functionFits_51 hX.2.2.2.2.2.2.2.2.2 ⟨by decide, vf, ?_⟩
    rw [nI_clamp (n := f) (by omega), h38, h3]
    match r with
    | 0 =>
      have hie : i = fiE (fiAt m f) + 1 := by omega
      subst hie
      have hg : jG J = vFn t m f := hg
      refine pk_lt (fiE (fiAt m f)) (fiE (fiAt m f) + 1) (fun _ => bz.mpr ⟨e0, congrArg b2i hg, f0, fun z => hr (by rw [hg]; exact z)⟩) fun z => absurd z (by omega)
    | r + 1 =>
      refine pk_lt (fiE (fiAt m f)) i (fun z => absurd z (by omega)) fun _ => ⟨fun z => ?_, fun z => ?_⟩
      · have hgf := b2i_0.mp z
        have e1 : jRun t m f (r + 1) i J = J := by
          rw [jRun, if_neg]
          rw [hgf]
          exact Bool.false_ne_true
        rw [e1] at hg
        refine bz.mpr ⟨e0, congrArg b2i hg, f0.jb_mono (Nat.le_refl _) (lbB_mono (by omega)), fun y => ?_⟩
        rw [← hg, hgf] at y
        cases y
      · have hgt := b2t z
        have hilt : i < (mdC m).2.length := by omega
        have hI : (mdC m).2[i]? = some (mdC m).2[i] := List.getElem?_eq_getElem hilt
        generalize hII : (mdC m).2[i] = I at hI
        have hfI : fI I := hC.1 I (List.mem_of_getElem? hI)
        have hskJ := hsk (Nat.succ_pos _)
        have hop : σ.1 41 i = nI (iOp I) := (hX.2.2.2.2.2.2.1.2.1 i I hI).1.1
        have hLle := lbB_le hI
        have hL4 := hC.2.1
        rw [nI_clamp (n := i) (by omega), hop]
        refine ⟨by decide, vp_in_nI (by omega) (by decide), ?_⟩
        have hlabs : labs (iL I) (lbB (mdC m).2 i) 0 σ := fun j lab _ hj => by
          refine ⟨?_, hfI.2.2.2.2.2.1 lab (List.mem_of_getElem? hj)⟩
          rw [(f0 44 _ (sJb_44 (by omega))).1]
          exact hLO _ _ (by have := lbB_mono (C := (mdC m).2) hsi; omega) (lbs_get hI hj)
        refine (c_instr (d := d) hl hf hn4 hX h hF h502σ h38 hI hfI (hskJ.cx (by omega)) hskJ.pos (by omega) hlabs).mono fun x σ1 hx => ?_
        obtain ⟨rfl, e1, f1, h1, hres⟩ := Qv_s hx
        refine ⟨e1, ?_⟩
        simp only [sW_eq e1]
        rw [nI_1]
        have ejr : jRun t m f (r + 1) i J = jRun t m f r (i + 1) (jI t m f i I J) := by rw [jRun, if_pos hgt, hI]
        have eat : jAt t m f (i + 1) = jI t m f i I J := by
          have hh : jG (jRun t m f (i - fiS (fiAt m f)) (fiS (fiAt m f)) (jSt0 m f)) = true := by
            have : jRun t m f (i - fiS (fiAt m f)) (fiS (fiAt m f)) (jSt0 m f) = J := hJ
            rw [this]
            exact hgt
          have := jRun_snoc (t := t) (m := m) (f := f) (i - fiS (fiAt m f)) (fiS (fiAt m f)) (jSt0 m f) I hh (by rw [show fiS (fiAt m f) + (i - fiS (fiAt m f)) = i by omega]; exact hI)
          rw [show fiS (fiAt m f) + (i - fiS (fiAt m f)) = i by omega] at this
          unfold jAt at hJ ⊢
          rw [show i + 1 - fiS (fiAt m f) = i - fiS (fiAt m f) + 1 by omega, this, hJ]
        have elb := lbB_succ hI
        rw [← elb] at f1
        have flo : lbB (mdC m).2 (fiS (fiAt m f)) ≤ lbB (mdC m).2 i := lbB_mono hsi
        refine w_fn51 hl hf hn4 hX0 hF h502 he hC hfF hLO r (i + 1) (jI t m f i I J) σ1 (by omega) (by omega) eat (by rw [← ejr]; exact hg) h1 (fun hr0 => ?_) (e1.trans e0) ((f0.jb_mono (Nat.le_refl _) (lbB_mono (Nat.le_succ i))).tr (f1.jb_mono flo (Nat.le_refl _))) fun hgn i2 I2 hs2 hi2 hI2 hb2 => ?_
        · exact skJ_step hskJ hI hfI (hC.2.2 i) (hfF.2.2.2 i I hsi hI (by omega))
        · by_cases hii : i2 = i
          · subst hii
            rw [hI] at hI2
            cases hI2
            rw [hJ]
            refine hres hb2 ?_
            have ej : jI t m f i2 I J = jBr (mdC m).2 (iOp I) (iL I) J := by
              unfold jI
              unfold isBr at hb2
              rw [if_neg (by omega), if_pos (by omega), if_neg (by omega)]
            rw [ej] at hgn
            unfold jBr at hgn
            exact jG_br3 hgn
          · refine (hr hgt i2 I2 hs2 (by omega) hI2 hb2).fr f1 fun j k hj hk => ?_
            have := lbB_mono (C := (mdC m).2) (show i2 + 1 ≤ i by omega)
            rw [lbB_succ hI2] at this
            exact sJb_44 (by omega)
end FNX
