/-! THE VERDICT ON A MODULE: functions; the reference -/
def sMv (c j : Nat) : Bool := sMJ c j || (Nat.beq c 103 && (Nat.beq j 41 || Nat.beq j 55 || Nat.beq j 56))
theorem Fr.mv {σ σ' : fkS} (h : Fr sMJ σ σ') : Fr sMv σ σ' := h.mono fun c j h => by unfold sMv; rw [h]; rfl
theorem sMv_mid {c j : Nat} (h : 103 < c) (h2 : c < 140) : sMv c j = false := by
  unfold sMv
  rw [sMJ_mid h h2, beq_ne (show c ≠ 103 by omega)]
  rfl
theorem KM.fv {t : Nat → UInt8} {n b : Nat} {m : Md} {σ σ' : fkS} (h : KM t n b m σ) (hl : lenM m) (f : Fr sMv σ σ') : KM t n b m σ' := h.fr hl f rfl fun c j a b => sMv_mid (by omega) (by omega)
section FNM
variable {t : Nat → UInt8} {n b d f : Nat} {m : Md}
theorem w_code96 {σ0 : fkS} (hl : lenM m) (hf : fcM t n m) (hT : vTy m = true) (hK0 : KM t n b m σ0) (hF : FX m f) (h55 : σ0.1 103 55 = nI f) (h56 : σ0.1 103 56 = nI (60 * b + fnTy m f)) (hC : fC (mdC m).2) (hC4 : (mdC m).2.length ≤ 4000) (hfF : fF (mdC m).2 (fiAt m f)) (hrd : rdM t n m) :
    ∀ (r i : Nat) (J : JS) (σ : fkS), i + r = fiE (fiAt m f) + 1 → fiS (fiAt m f) ≤ i → jG (jRun t m f r i J) = vFn t m f → (jT J).length + fiS (fiAt m f) ≤ i → (r = 0 → jB J = []) → (0 < r → skJ (mdC m).2 i J) → MGd (mdC m).2 J σ → (jG J = true → σ.1 103 42 = 0 ∧ ∀ I, 0 < r → (mdC m).2[i]? = some I → RM t b n n I.1 σ) → Fr sMJ σ0 σ →
    Wq 269 (d + 6) 96 [some (.ref 103), none, none, none] [] σ (Qi fun x σ' => x = b2i (vFn t m f) ∧ Fr sMJ σ0 σ' ∧ (vFn t m f = true → σ'.1 103 42 = 0))
  | r, i, J, σ, hir, hsi, hg, hTl, hB0, hsk, hM, hR, f0 => by
    obtain ⟨K, k1, k2, k3⟩ := hM
    have h57 : σ.1 103 57 = b2i (jG J) := k1.2.2.2.2.2.trans (by rw [k2])
    refine S_M_isCode_96 ?_
    rw [h57]
    by_cases hgt : jG J = true
    · have hBe := (k3 hgt).1
      have h54 : σ.1 103 54 = nI (jB J).length := k1.2.2.2.1.trans (by rw [hBe])
      have hB22 : (jB J).length ≤ 22 := by rw [← hBe]; exact k1.1.2.1
      rw [h54]
      refine ⟨fun z => by (rw [hgt] at z; exact absurd z (by decide)), fun _ => ?_⟩
      match r with
      | 0 =>
        rw [hB0 rfl]
        have hg : jG J = vFn t m f := hg
        exact ⟨fun _ => bz.mpr ⟨congrArg b2i hg, f0, fun _ => (hR hgt).1⟩, fun z => absurd (by decide) z⟩
      | r + 1 =>
        have hskJ := hsk (Nat.succ_pos _)
        have hpos := hskJ.pos
        have hKJ : K = J := (k3 hgt).2 hpos
        subst hKJ
        have hil : i < (mdC m).2.length := by have := hfF.2.1; omega
        have hI : (mdC m).2[i]? = some (mdC m).2[i] := List.getElem?_eq_getElem hil
        generalize hII : (mdC m).2[i] = I at hI
        have h42 := (hR hgt).1
        have hRM := (hR hgt).2 I (Nat.succ_pos _) hI
        have hfl : f < (mdC m).1.length := by have := hF.1; have := hF.2.2.1; omega
        obtain ⟨⟨-, I9, s4, s5, s6⟩, s3⟩ := hrd f _ (fiAt_get hfl)
        obtain ⟨q, u1, u2⟩ := s3 i I hsi (by omega) hI
        have hMS : MS t n b (mdC m).2 K I.1 σ := ⟨k1, hRM, h42⟩
        have hpl := pI_l u1
        have hfI : fI I := hC.1 I (List.mem_of_getElem? hI)
        have hK := hK0.fj hl f0
        refine ⟨fun z => absurd z (nI_nle (by omega) (by omega)), fun _ => sN hMS (by omega) f0 fun σ1 f1 h1 => ?_⟩
        have e40 : σ.1 103 40 = nI I.1 := hRM.2.2.2.2.2.2.1
        show Cv (d + 5) 271 [.ref 103, .int (nI (t I.1).toNat), .int (σ.1 103 40)] σ1 _
        rw [e40, ← hpl.2.1]
        refine (m_judges (d := d) hl hf hT (hK0.fj hl f1) hF ((f1 103 55 rfl).1.trans h55) ((f1 103 56 rfl).1.trans h56) hC hC4 hI u1 hskJ h1 (by omega)).mono fun x σ2 hx => ?_
        obtain ⟨rfl, f2, g2, r2⟩ := Qv_s hx
        have ejr : jRun t m f (r + 1) i K = jRun t m f r (i + 1) (jI t m f i I K) := by rw [jRun, if_pos hgt, hI]
        have hT1 := T_I (t := t) (m := m) (f := f) (i := i) (I := I) (J := K)
        show Wq 269 (d + 6) 96 _ _ σ2 _
        refine w_code96 hl hf hT hK0 hF h55 h56 hC hC4 hfF hrd r (i + 1) (jI t m f i I K) σ2 (by omega) (by omega) (by rw [← ejr]; exact hg) (by omega) (fun hr0 => ?_) (fun hr0 => ?_) g2 (fun hgn => ⟨(r2 hgn).2, fun I2 hr0 hI2 => ?_⟩) (f1.tr f2)
        · have hie : i = fiE (fiAt m f) := by omega
          rw [hie] at hI hskJ
          rw [s4] at hI
          cases hI
          have e1 := jO_Ie (t := t) (m := m) (f := f) (i := i) (J := K) s5
          have e2 : jO K = [none] := by
            rw [show jO K = skO2 (sk (mdC m).2 (fiE (fiAt m f))) from hskJ, s6]
            rfl
          rw [e2] at e1
          have e3 : (jO (jI t m f i I K)).length = 0 := by rw [e1]; rfl
          have e4 : (jO (jI t m f i I K)).length = (jB (jI t m f i I K)).length := List.length_map ..
          exact List.eq_nil_of_length_eq_zero (by omega)
        · exact skJ_step hskJ hI hfI (hC.2.2 i) (hfF.2.2.2 i I hsi hI (by omega))
        · obtain ⟨a1, a2⟩ := r2 hgn
          have := u2 I2 (by omega) hI2
          rw [this]
          exact a1
    · have hgf := bf hgt
      have e1 : jRun t m f r i J = J := by
        cases r with
        | zero => rfl
        | succ r => rw [jRun, if_neg hgt]
      rw [e1] at hg
      exact ⟨fun _ => bz.mpr ⟨congrArg b2i hg, f0, fun y => absurd (hg.trans y) (by rw [hgf]; decide)⟩, fun z => absurd (by rw [hgf]; rfl) z⟩
theorem m_isCode {σ : fkS} (hl : lenM m) (hf : fcM t n m) (hT : vTy m = true) (hK : KM t n b m σ) (hok : okMd m) (hC4 : (mdC m).2.length ≤ 4000) (hrd : rdM t n m) (hfu : f < (mdU m).length) (h58 : σ.1 103 58 = nI n) (h42 : σ.1 103 42 = 0) :
    Ci (d + 6) 269 [.ref 103, .int (nI f)] σ (fun x σ' => x = b2i (vFn t m f) ∧ Fr sMv σ σ' ∧ (vFn t m f = true → σ'.1 103 42 = 0)) := by
  obtain ⟨o1, o2, o3, o4, o5⟩ := hok
  have l1 : (mdT m).length ≤ 60 := hl.1
  have l2 : (mdU m).length ≤ 60 := hl.2.1
  have hb := hK.1
  have hF : FX m f := ⟨hfu, vTy_get hT hfu, o1, o2⟩
  have hty := hF.2.1
  have hfl : f < (mdC m).1.length := by omega
  have hfF := o4 f hfl
  have hg : (mdU m)[f]? = some (fnTy m f) := by
    unfold fnTy
    rw [List.getElem?_eq_getElem hfu]
    rfl
  have hq : σ.2.1 117 (60 * b + f) = lN (fnTy m f) := hK.2.2.1.2.1.1 f _ hg
  obtain ⟨c0, c1, c2, c3⟩ := hK.2.2.1.2.2.2.2.2.2.2.1 f _ (fiAt_get hfl)
  have hr : rTM t (60 * b + fnTy m f) (tyAt m (fnTy m f)) σ := (hK.2.2.1.1.1 _ _ (tyAt_get hty)).2
  have hgv := (hf.1 _ (List.mem_of_getElem? (tyAt_get hty))).2.2.2
  have vf : vp_in (nI (60 * b + f)) 120 := vp_in_nI (by omega) (by decide)
  have vt : vp_in (nI (60 * b + fnTy m f)) 120 := vp_in_nI (by omega) (by decide)
  refine S_M_isCode ?_
  rw [hK.2.1, ex, nI_clamp (n := 60 * b + f) (by omega), hq, lN_i32, ex, nI_clamp (n := 60 * b + fnTy m f) (by omega), hr.2.2, c3, h58]
  refine ⟨vf, vf, vt, vt, ?_⟩
  have fτ : Fr sMv σ (sI (sI (sI (sI (sI (sI (sI σ 103 55 (nI f)) 103 56 (nI (60 * b + fnTy m f))) 103 40 (nI (fiAt m f).2.1)) 103 41 (nI n)) 103 57 (1 : Int32)) 103 53 (0 : Int32)) 103 54 (0 : Int32)) := ((((((Fr.rf.sI rfl).sI rfl).sI rfl).sI rfl).sI rfl).sI rfl).sI rfl
  have h55 : (sI (sI (sI (sI (sI (sI (sI σ 103 55 (nI f)) 103 56 (nI (60 * b + fnTy m f))) 103 40 (nI (fiAt m f).2.1)) 103 41 (nI n)) 103 57 (1 : Int32)) 103 53 (0 : Int32)) 103 54 (0 : Int32)).1 103 55 = nI f := rfl
  have h56 : (sI (sI (sI (sI (sI (sI (sI σ 103 55 (nI f)) 103 56 (nI (60 * b + fnTy m f))) 103 40 (nI (fiAt m f).2.1)) 103 41 (nI n)) 103 57 (1 : Int32)) 103 53 (0 : Int32)) 103 54 (0 : Int32)).1 103 56 = nI (60 * b + fnTy m f) := rfl
  have h40 : (sI (sI (sI (sI (sI (sI (sI σ 103 55 (nI f)) 103 56 (nI (60 * b + fnTy m f))) 103 40 (nI (fiAt m f).2.1)) 103 41 (nI n)) 103 57 (1 : Int32)) 103 53 (0 : Int32)) 103 54 (0 : Int32)).1 103 40 = nI (fiAt m f).2.1 := rfl
  have h41 : (sI (sI (sI (sI (sI (sI (sI σ 103 55 (nI f)) 103 56 (nI (60 * b + fnTy m f))) 103 40 (nI (fiAt m f).2.1)) 103 41 (nI n)) 103 57 (1 : Int32)) 103 53 (0 : Int32)) 103 54 (0 : Int32)).1 103 41 = nI n := rfl
  have h42τ : (sI (sI (sI (sI (sI (sI (sI σ 103 55 (nI f)) 103 56 (nI (60 * b + fnTy m f))) 103 40 (nI (fiAt m f).2.1)) 103 41 (nI n)) 103 57 (1 : Int32)) 103 53 (0 : Int32)) 103 54 (0 : Int32)).1 103 42 = 0 := h42
  have hJ : mJ (mdC m).2 ([], [], true) (sI (sI (sI (sI (sI (sI (sI σ 103 55 (nI f)) 103 56 (nI (60 * b + fnTy m f))) 103 40 (nI (fiAt m f).2.1)) 103 41 (nI n)) 103 57 (1 : Int32)) 103 53 (0 : Int32)) 103 54 (0 : Int32)) := ⟨⟨Nat.zero_le _, Nat.zero_le _, fun x hx => (by cases hx), fun k b hb => (by cases hb), fun i j bi bj _ hi => (by cases hi)⟩, rfl, fun k x hx => (by cases hx), rfl, fun k b hb => (by cases hb), rfl⟩
  generalize sI (sI (sI (sI (sI (sI (sI σ 103 55 (nI f)) 103 56 (nI (60 * b + fnTy m f))) 103 40 (nI (fiAt m f).2.1)) 103 41 (nI n)) 103 57 (1 : Int32)) 103 53 (0 : Int32)) 103 54 (0 : Int32) = τ at *
  have hKτ := hK.fv hl fτ
  refine (m_jopen (d := d + 5) (o := none) (ty := (tyAt m (fnTy m f)).2.2) (nd := (tyAt m (fnTy m f)).2.2) hJ (isT0.lt hgv) (fun k hk => by cases hk) (by decide) rfl).mono fun x σ1 hx => ?_
  obtain ⟨rfl, f1, h1⟩ := Qv_s hx
  obtain ⟨⟨⟨I0, s1, s2⟩, -⟩, -⟩ := hrd f _ (fiAt_get hfl)
  have hIn : I0.1 < 4000 := (hKτ.2.2.1.2.2.2.2.2.2.2.2.2.2.1.1 _ _ s1).1
  have hE := hfF.1
  have hK1 := hKτ.fj hl f1.mg
  show Wq 269 (d + 6) 96 _ _ σ1 _
  refine (w_code96 (d := d) (σ0 := τ) hl hf hT hKτ hF h55 h56 o3 hC4 hfF hrd (fiE (fiAt m f) + 1 - fiS (fiAt m f)) (fiS (fiAt m f)) (jSt0 m f) σ1 (by omega) (Nat.le_refl _) rfl ?_ (fun z => absurd z (by omega)) (fun _ => ?_) (MGd.of h1) (fun _ => ⟨(f1 103 42 rfl).1.trans h42τ, fun I _ hI => ?_⟩) f1.mg).mono fun x σ2 hx => ?_
  · unfold jSt0
    rw [T_open]
    show 0 + _ ≤ _
    omega
  · unfold skJ skO2
    rw [hfF.2.2.1]
    unfold jSt0
    rw [jO_open (by decide)]
    rfl
  · rw [s1] at hI
    cases hI
    refine ⟨hb, hK1.2.1, hK1.2.2.2.1, hK1.2.2.2.2, Nat.le_refl _, (f1 103 41 rfl).1.trans h41, ?_, by omega⟩
    rw [s2]
    exact (f1 103 40 rfl).1.trans h40
  · obtain ⟨v, rfl, hv, f3, g3⟩ := Qi_s hx
    exact ⟨hv, fτ.tr f3.mv, g3⟩
theorem w_judge346 {σ0 : fkS} (hl : lenM m) (hf : fcM t n m) (hT : vTy m = true) (hK0 : KM t n b m σ0) (hok : okMd m) (hC4 : (mdC m).2.length ≤ 4000) (hrd : rdM t n m) (h58 : σ0.1 103 58 = nI n) :
    ∀ (r g : Nat) (σ : fkS), g + r = (mdU m).length → Fr sMv σ0 σ → σ.1 103 42 = 0 → (∀ k, k < g → vFn t m k = true) →
    Wq 265 (d + 7) 346 [some (.ref 103), some (.int (nI g)), none] [] σ (Qi fun x σ' => x = (if vFs t m = true then 0 else -3) ∧ Fr sMv σ0 σ')
  | r, g, σ, hgr, f0, h42, hall => by
    have l2 : (mdU m).length ≤ 60 := hl.2.1
    have hb := hK0.1
    have hK := hK0.fv hl f0
    have h116 : σ.1 116 b = nI (mdC m).1.length := hK.2.2.1.2.2.2.2.2.2.2.2.2.1
    have o1 := hok.1
    refine S_M_judge_346 ?_
    rw [hK.2.1, nI_clamp (n := b) (by omega), h116, ← o1]
    refine ⟨vp_in_nI hb (by decide), ?_⟩
    match r with
    | 0 =>
      have hv : vFs t m = true := by
        unfold vFs
        rw [List.all_eq_true]
        intro k hk
        exact hall k (by have := List.mem_range.mp hk; omega)
      rw [if_pos hv]
      exact pk_le (mdU m).length g (fun _ => ⟨rfl, f0⟩) fun z => absurd z (by omega)
    | r + 1 =>
      refine pk_le (mdU m).length g (fun z => absurd z (by omega)) fun _ => ?_
      refine (m_isCode (d := d) hl hf hT hK hok hC4 hrd (f := g) (by omega) ((f0 103 58 rfl).1.trans h58) h42).mono fun x σ1 hx => ?_
      obtain ⟨v, rfl, hv, f1, g1⟩ := Qi_s hx
      subst hv
      show _ ∧ _
      refine ⟨fun z => ?_, fun z => ?_⟩
      · rw [nI_1]
        refine w_judge346 hl hf hT hK0 hok hC4 hrd h58 r (g + 1) σ1 (by omega) (f0.tr f1) (g1 (b2t z)) fun k hk => ?_
        by_cases hkg : k = g
        · rw [hkg]; exact b2t z
        · exact hall k (by omega)
      · have hvf := b2i_0.mp z
        have hv : vFs t m = false := bf fun y => by
          have := List.all_eq_true.mp y g (List.mem_range.mpr (by omega))
          rw [hvf] at this
          cases this
        refine ⟨?_, f0.tr f1⟩
        rw [hv]
        rfl
/-- THE reference's verdict -/
theorem m_verdict {σ : fkS} (hl : lenM m) (hf : fcM t n m) (hK : KM t n b m σ) (hok : okMd m) (hC4 : (mdC m).2.length ≤ 4000) (hrd : rdM t n m) (h58 : σ.1 103 58 = nI n) (h42 : σ.1 103 42 = 0) : Ci (d + 7) 265 [.ref 103] σ (fun x σ' => x = vdM t m ∧ Fr sMv σ σ') := by
  refine m_judge (d := d + 5) hK.1 hK.2.1 hK.2.2.1 hl hf hK.2.2.2.2 hK.2.2.2.1 (fun hT hv => ?_) fun _ => ⟨rfl, Fr.rf⟩
  refine (w_judge346 (d := d) hl hf hT hK hok hC4 hrd h58 (mdU m).length 0 σ (by omega) Fr.rf h42 fun k hk => absurd hk (Nat.not_lt_zero k)).mono fun x σ1 hx => ?_
  obtain ⟨v, rfl, h1, f1⟩ := Qi_s hx
  exact ⟨h1.trans hv.symm, f1⟩
end FNM
