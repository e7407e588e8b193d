/-! THE VERDICT ON A MODULE: the class -/
def sFn (a b c j : Nat) : Bool := sJb a b c j || (Nat.beq c 50 && Nat.beq j 2)
/-- all of a module's rows that its functions need -/
def okMd (m : Md) : Prop := (mdU m).length = (mdC m).1.length ∧ fcC m ∧ fC (mdC m).2 ∧ (∀ f, f < (mdC m).1.length → fF (mdC m).2 (fiAt m f)) ∧ ∀ f g, f < g → g < (mdC m).1.length → fiE (fiAt m f) < fiS (fiAt m g)
def LO (C : List In) (s : Nat) (σ : fkS) : Prop := ∀ j B, lbB C s ≤ j → (lbs C)[j]? = some B → σ.1 44 (3 * j) = nI B
theorem sFn_lt {a b c j : Nat} (h : c < 44) : sFn a b c j = false := by
  unfold sFn
  rw [sJb_lt h, beq_ne (show c ≠ 50 by omega)]
  rfl
theorem sFn_44 {a b j : Nat} (h : j < 3 * a ∨ 3 * b ≤ j) : sFn a b 44 j = false := by
  unfold sFn
  rw [sJb_44 h]
  rfl
theorem Fr.jfn {a b : Nat} {σ σ' : fkS} (h : Fr (sJb a b) σ σ') : Fr (sFn a b) σ σ' := h.mono fun c j q => by
  unfold sFn
  rw [q]
  rfl
theorem vTy_get {m : Md} {f : Nat} (h : vTy m = true) (hf : f < (mdU m).length) : fnTy m f < (mdT m).length := by
  have hg : (mdU m)[f]? = some (fnTy m f) := by
    unfold fnTy
    rw [List.getElem?_eq_getElem hf]
    rfl
  exact of_decide_eq_true (List.all_eq_true.mp h _ (List.mem_of_getElem? hg))
section VDX
variable {t : Nat → UInt8} {n d f : Nat} {m : Md} {σ : fkS}
theorem c_fn (hl : lenM m) (hf : fcM t n m) (hn4 : n ≤ 4000) (hX : KX t n m σ) (hok : okMd m) (hT : vTy m = true) (hfu : f < (mdU m).length) (hLO : LO (mdC m).2 (fiS (fiAt m f)) σ) :
    Di (d + 5) 67 [.ref 50, .int (nI f)] σ (fun x σ' => x = b2i (vFn t m f) ∧ Fr (sFn (lbB (mdC m).2 (fiS (fiAt m f))) (lbB (mdC m).2 (fiE (fiAt m f) + 1))) σ σ' ∧ (vFn t m f = true → rvd t m f (fiE (fiAt m f) + 1) σ')) := by
  obtain ⟨o1, o2, o3, o4, o5⟩ := hok
  have l2 : (mdU m).length ≤ 60 := hl.2.1
  have hF : FX m f := ⟨hfu, vTy_get hT hfu, o1, o2⟩
  have hfF := o4 f (by omega)
  have hfi : (mdC m).1[f]? = some (fiAt m f) := by
    unfold fiAt
    rw [List.getElem?_eq_getElem (by omega)]
    rfl
  have hg : (mdU m)[f]? = some (fnTy m f) := by
    unfold fnTy
    rw [List.getElem?_eq_getElem hfu]
    rfl
  have vf : vp_in (nI f) 60 := vp_in_nI (by omega) (by decide)
  refine S_Judge_functionFits hX.2.2.2.2.2.2.2.2.1 hX.2.2.2.2.2.2.2.2.2 ⟨by decide, by decide, vf, ?_⟩
  rw [nI_clamp (n := f) (by omega), hX.2.1.2 f _ hg]
  have fτ : Fr (sFn (lbB (mdC m).2 (fiS (fiAt m f))) (lbB (mdC m).2 (fiE (fiAt m f) + 1))) σ (sI (sI (sI (sI σ 50 2 (nI f)) 50 3 (1 : Int32)) 50 5 (0 : Int32)) 50 10 (0 : Int32)) := (((Fr.rf.sI rfl).sI rfl).sI rfl).sI rfl
  have fz : Fr (sFn 0 0) σ (sI (sI (sI (sI σ 50 2 (nI f)) 50 3 (1 : Int32)) 50 5 (0 : Int32)) 50 10 (0 : Int32)) := (((Fr.rf.sI rfl).sI rfl).sI rfl).sI rfl
  have h2 : (sI (sI (sI (sI σ 50 2 (nI f)) 50 3 (1 : Int32)) 50 5 (0 : Int32)) 50 10 (0 : Int32)).1 50 2 = nI f := rfl
  have hJ : rJ ([], [], true) (sI (sI (sI (sI σ 50 2 (nI f)) 50 3 (1 : Int32)) 50 5 (0 : Int32)) 50 10 (0 : Int32)) := ⟨⟨Nat.zero_le _, Nat.zero_le _, fun x hx => (by cases hx), fun k b hb => (by cases hb), fun i j bi bj _ hi => (by cases hi)⟩, rfl, fun k x hx => (by cases hx), rfl, fun k b hb => (by cases hb), rfl⟩
  have er : (sI (sI (sI (sI σ 50 2 (nI f)) 50 3 (1 : Int32)) 50 5 (0 : Int32)) 50 10 (0 : Int32)).2.2 = σ.2.2 := rfl
  generalize sI (sI (sI (sI σ 50 2 (nI f)) 50 3 (1 : Int32)) 50 5 (0 : Int32)) 50 10 (0 : Int32) = τ at *
  have hXτ : KX t n m τ := hX.fr er fτ fun c j hc => sFn_lt hc
  refine (c_tyG hXτ hl hF.2.1).mono fun x σ1 hx => ?_
  obtain ⟨v, rfl, e1, hv, hs⟩ := Qi_s hx
  subst hv
  rw [hs]
  refine ⟨rfl, ?_⟩
  simp only [sW_eq er]
  have hgv := (hf.1 _ (List.mem_of_getElem? (tyAt_get hF.2.1))).2.2.2
  refine (c_jopen (d := d + 4) (o := none) hJ (isT0.lt hgv) (fun k hk => by cases hk)).mono fun x σ2 hx => ?_
  obtain ⟨rfl, e2, hp⟩ := Qv_s hx
  refine ⟨e2, ?_⟩
  simp only [sW_eq (e2.trans er)]
  refine ⟨by decide, vf, ?_⟩
  have h37 : σ2.1 37 f = nI (fiS (fiAt m f)) := (hp.1 37 f rfl).1.trans (hXτ.2.2.2.2.2.1 f _ hfi).1
  rw [h37]
  have hse := hfF.1
  have hA : jAt t m f (fiS (fiAt m f)) = jSt0 m f := by
    unfold jAt
    rw [Nat.sub_self]
    rfl
  refine (w_fn51 (d := d) (σ0 := τ) hl hf hn4 hXτ hF h2 (hXτ.2.2.2.2.2.1 f _ hfi).2.1 o3 hfF (fun j B hj hB => ?_) (fiE (fiAt m f) + 1 - fiS (fiAt m f)) (fiS (fiAt m f)) (jSt0 m f) σ2 (by omega) (Nat.le_refl _) hA rfl hp.2 (fun _ => ?_) e2 hp.1.jb fun _ i I h1 h2 => absurd h2 (by omega)).mono fun x σ3 hx => ?_
  · rw [(fz 44 _ (sFn_44 (by omega))).1]
    exact hLO j B hj hB
  · unfold skJ skO2
    rw [hfF.2.2.1]
    unfold jSt0
    rw [jO_open (by decide)]
    rfl
  · obtain ⟨v, rfl, e3, hv, f3, r3⟩ := Qi_s hx
    exact ⟨e3.trans er, hv, fτ.tr f3.jfn, r3⟩
def sVd (c j : Nat) : Bool := Nat.beq c 44 || (Nat.beq c 50 && (Nat.beq j 2 || Nat.beq j 3 || Nat.beq j 5 || Nat.beq j 10)) || Nat.beq c 51 || Nat.beq c 52 || Nat.beq c 53 || Nat.beq c 54 || Nat.beq c 55
theorem Fr.vd {a b : Nat} {σ σ' : fkS} (h : Fr (sFn a b) σ σ') : Fr sVd σ σ' := h.mono fun c j q => by
  unfold sFn sJb sJg s44 at q
  unfold sVd
  simp only [Bool.or_eq_true, Bool.and_eq_true] at q ⊢
  grind
theorem sVd_lt {c j : Nat} (h : c < 44) : sVd c j = false := by
  unfold sVd
  rw [beq_ne (show c ≠ 44 by omega), beq_ne (show c ≠ 50 by omega), beq_ne (show c ≠ 51 by omega), beq_ne (show c ≠ 52 by omega), beq_ne (show c ≠ 53 by omega), beq_ne (show c ≠ 54 by omega), beq_ne (show c ≠ 55 by omega)]
  rfl
def vFs (t : Nat → UInt8) (m : Md) : Bool := (List.range (mdU m).length).all (vFn t m)
def rvdA (t : Nat → UInt8) (m : Md) (N : Nat) (σ : fkS) : Prop := ∀ f, f < N → rvd t m f (fiE (fiAt m f) + 1) σ
theorem w_vd134 {σ0 : fkS} (hl : lenM m) (hf : fcM t n m) (hn4 : n ≤ 4000) (hX0 : KX t n m σ0) (hok : okMd m) (hT : vTy m = true) (hLO0 : LO (mdC m).2 0 σ0) :
    ∀ (r f : Nat) (σ : fkS), f + r = (mdU m).length → σ.2.2 = σ0.2.2 → Fr sVd σ0 σ → (∀ g, f ≤ g → g < (mdU m).length → LO (mdC m).2 (fiS (fiAt m g)) σ) → (∀ g, g < f → vFn t m g = true) → rvdA t m f σ →
    Wq 57 (d + 6) 134 [some (.ref 50), none, none, some (.int (nI f))] [] σ (Qi fun x σ' => σ'.2.2 = σ0.2.2 ∧ x = (if vFs t m = true then 0 else -3) ∧ Fr sVd σ0 σ' ∧ (vFs t m = true → rvdA t m (mdU m).length σ'))
  | r, f, σ, hfr, e0, f0, hLO, hall, hr => by
    have l2 : (mdU m).length ≤ 60 := hl.2.1
    have hX : KX t n m σ := hX0.fr e0 f0 fun c j hc => sVd_lt hc
    refine S_Judge_verdictOn_134 hX.2.2.2.2.2.2.2.2.1 ⟨by decide, ?_⟩
    rw [hX.2.1.1]
    match r with
    | 0 =>
      have hfe : f = (mdU m).length := by omega
      subst hfe
      have hv : vFs t m = true := by
        unfold vFs
        rw [List.all_eq_true]
        intro g hg
        exact hall g (List.mem_range.mp hg)
      refine pk_le (mdU m).length (mdU m).length (fun _ => ⟨e0, ?_, f0, fun _ => hr⟩) fun z => absurd z (by omega)
      rw [if_pos hv]
    | r + 1 =>
      refine pk_le (mdU m).length f (fun z => absurd z (by omega)) fun _ => ?_
      refine (c_fn (d := d) hl hf hn4 hX hok hT (f := f) (by omega) (hLO f (Nat.le_refl _) (by omega))).mono fun x σ1 hx => ?_
      obtain ⟨v, rfl, e1, hv, f1, r1⟩ := Qi_s hx
      subst hv
      refine ⟨e1, ?_⟩
      simp only [sW_eq e1]
      obtain ⟨o1, o2, o3, o4, o5⟩ := hok
      refine ⟨fun z => ?_, fun z => ?_⟩
      · have hvt := b2t z
        rw [nI_1]
        refine w_vd134 hl hf hn4 hX0 ⟨o1, o2, o3, o4, o5⟩ hT hLO0 r (f + 1) σ1 (by omega) (e1.trans e0) (f0.tr f1.vd) (fun g hg hgl j B hj hB => ?_) (fun g hg => ?_) fun g hg i I hi1 hi2 hI hb => ?_
        · have := lbB_mono (C := (mdC m).2) (show fiE (fiAt m f) + 1 ≤ fiS (fiAt m g) from o5 f g (by omega) (by omega))
          rw [(f1 44 _ (sFn_44 (by omega))).1]
          exact hLO g (by omega) hgl j B hj hB
        · by_cases hgf : g = f
          · rw [hgf]; exact hvt
          · exact hall g (by omega)
        · by_cases hgf : g = f
          · subst hgf
            exact r1 hvt i I hi1 hi2 hI hb
          · refine (hr g (by omega) i I hi1 hi2 hI hb).fr f1 fun j k hj hk => ?_
            have h1 := o5 g f (by omega) (by omega)
            have h2 := lbB_mono (C := (mdC m).2) (show i + 1 ≤ fiS (fiAt m f) by omega)
            rw [lbB_succ hI] at h2
            exact sFn_44 (by omega)
      · have hvf := b2i_0.mp z
        have hv : vFs t m = false := by
          cases hv : vFs t m with
          | false => rfl
          | true =>
            have := List.all_eq_true.mp hv f (List.mem_range.mpr (by omega))
            rw [hvf] at this
            cases this
        refine ⟨e1.trans e0, ?_, f0.tr f1.vd, fun y => ?_⟩
        · rw [hv]
          rfl
        · rw [hv] at y
          cases y
end VDX
