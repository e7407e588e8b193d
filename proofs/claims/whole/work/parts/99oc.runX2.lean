/-! A RUN, the class: from its ARGUMENTS to its answer -/
def sRg (c j : Nat) : Bool := sRun c j || (Nat.beq c 56 && Nat.beq j 16)
theorem sRun_rg {c j : Nat} (h : sRun c j = true) : sRg c j = true := by
  unfold sRg
  rw [h]
  rfl
/-- a run's answer; what it gives -/
def rnA (s : St) : Int32 := if sS s = true then 1 else if sT s = 0 then 0 else 2
def ruG (m : Md) (f : Nat) (s : St) : Int64 := if sS s = true ∨ sT s ≠ 0 ∨ gvF m f = 0 then 0 else (sR2 s).headD 0
/-- the ARGUMENTS a run takes -/
def ruS (t : Nat → UInt8) (m : Md) (f : Nat) (σ : fkS) (e : Env) : St := aEn m f (rn0 t m f (fun k => σ.2.1 2 k) e)
section RUNX2
variable {t : Nat → UInt8} {n d f f0 g i j k l tk N v4 T : Nat} {m : Md} {σ σ' : fkS} {L S R A B : List Int64} {e : Env} {sp : Bool} {fs : List Fm} {a : Nat → Int64} {Q : fkS → Prop} {QQ : Option Value → fkS → Prop}
theorem w_arg39 {σ0 : fkS} (hX : SX t n m σ0) (hf : f < (mdU m).length) (ha : agN m f ≤ 8) (hQ : ∀ σ, σ.2.2 = σ0.2.2 → Fr sOp σ0 σ → oX σ (agS t (tyAt m (fnTy m f)) (fun k => σ0.2.1 2 k) (agN m f)) → Dv (d + 3) 107 [.ref 56, .int (nI f), .int (0 : Int32)] σ (fun σ3 => W3 (d + 3) N (fnTy m f) 0 0 (sW σ3 σ) QQ)) :
    ∀ (r k : Nat) (σ : fkS), k + r = agN m f → σ.2.2 = σ0.2.2 → Fr sOp σ0 σ → oX σ (agS t (tyAt m (fnTy m f)) (fun k => σ0.2.1 2 k) k) → Wq 105 (d + 4) 39 [some (.ref 56), some (.int (nI f)), some (.ref 2), some (.int (nI N)), some (.int (nI (fnTy m f))), some (.int (nI k)), none, none] [] σ QQ
  | r, k, σ, hk, e0, f0, ho => by
    have hX1 := hX.fo f0
    obtain ⟨l1, l2, l3, l4, l5, l6, l7⟩ := hX.lens hf
    refine S_Machine_start_39 hX1.2.2.2.1 ⟨by decide, ?_⟩
    refine (hX1.args hf).mono fun z σ1 hz => ?_
    obtain ⟨x, rfl, eq1, hx, hs⟩ := Qi_s hz
    subst hx
    refine ⟨eq1, ?_⟩
    simp only [sW_eq eq1]
    rw [hs]
    match r with
    | 0 =>
      have hk : k = agN m f := by omega
      subst hk
      exact pk_le (agN m f) (agN m f) (fun _ => hQ σ e0 f0 ho) fun z => absurd z (by omega)
    | r + 1 =>
      refine pk_le (agN m f) k (fun z => absurd z (by omega)) fun _ => pk_le 8 k (fun z => absurd z (by omega)) fun _ => ⟨by decide, ?_⟩
      have hj : k < (tyAt m (fnTy m f)).2.1 := by
        have : agN m f = (tyAt m (fnTy m f)).2.1 := rfl
        omega
      refine (hX1.tyA l5 hj).mono fun z σ1 hz => ?_
      obtain ⟨x, rfl, eq1, hx, hs⟩ := Qi_s hz
      subst hx
      refine ⟨eq1, ?_⟩
      simp only [sW_eq eq1]
      rw [hs]
      have k2 : σ.2.1 2 k = σ0.2.1 2 k := (f0 _ _ rfl).2.1
      have hlk : (agS t (tyAt m (fnTy m f)) (fun k => σ0.2.1 2 k) k).length < 24000 := by rw [agS_len]; omega
      have h8 := (t ((tyAt m (fnTy m f)).1 + k)).toNat_lt
      have next : ∀ {v : Int64} {σ2 : fkS}, v = agV t (tyAt m (fnTy m f)) (fun k => σ0.2.1 2 k) k → σ2.2.2 = σ.2.2 → Fr sOp σ σ2 → oX σ2 (v :: agS t (tyAt m (fnTy m f)) (fun k => σ0.2.1 2 k) k) → Wq 105 (d + 4) 39 [some (.ref 56), some (.int (nI f)), some (.ref 2), some (.int (nI N)), some (.int (nI (fnTy m f))), some (.int (nI k + 1)), none, none] [] (sW σ2 σ) QQ := fun {v σ2} hv e2 f2 o2 => by
        rw [sW_eq e2, nI_1]
        rw [hv] at o2
        exact w_arg39 hX hf ha hQ r (k + 1) σ2 (by omega) (e2.trans e0) (f0.tr f2) o2
      refine And.comm.mp (pk_eq (t ((tyAt m (fnTy m f)).1 + k)).toNat 127 (fun z => ?_) (fun z => ?_) (ha := by omega) (hb := by decide))
      · refine S_Machine_start_81 ⟨fun y => absurd y (by decide), fun _ => ⟨vp_in_nI (by omega) (by decide), ?_⟩⟩
        rw [nI_clamp (by omega), k2]
        refine x_push ho hlk fun σ2 e2 f2 o2 => next ?_ e2 f2 o2
        unfold agV
        rw [if_pos z]
      · refine S_Machine_start_81 ⟨fun _ => ⟨vp_in_nI (by omega) (by decide), ?_⟩, fun y => absurd rfl y⟩
        rw [nI_clamp (by omega), k2]
        refine x_push ho hlk fun σ2 e2 f2 o2 => next ?_ e2 f2 o2
        unfold agV
        rw [if_neg z]
theorem x_start (hX : SX t n m σ) (hf : f < (mdU m).length) (ha : agN m f ≤ 8) (hN : N ≤ 20000) (he : evOk m e) (hen : envX m e σ) {P : Int32 → fkS → Prop} (hP : ∀ k s' σ', s' = aIt t m N k (ruS t m f σ e) → RE m N f s' → sT s' ≤ 8 → σ'.2.2 = σ.2.2 → Fr sRg σ σ' → σ'.1 56 14 = nI (sK s') → σ'.1 56 15 = nI (sT s') → σ'.2.1 56 16 = ruG m f s' → envX m (sE s') σ' → P (rnA s') σ') : Di (d + 6) 105 [.ref 56, .int (nI f), .ref 2, .int (nI N)] σ P := by
  have hok : okFn t n m f := ⟨hX.1, hf⟩
  obtain ⟨l1, l2, l3, l4, l5, l6, l7⟩ := hX.lens hf
  refine S_Machine_start (Q := Qi _) hX.2.2.2.1 ⟨by decide, vp_in_nI (by omega) (by decide), ?_⟩
  rw [nI_clamp (n := f) (by omega), hX.ty hf]
  have fz : Fr sRg σ (sL (sI (sI (sI (sI σ 56 8 (0 : Int32)) 56 10 (0 : Int32)) 56 14 (0 : Int32)) 56 15 (0 : Int32)) 56 16 (0 : Int64)) := ((((Fr.rf.sI rfl).sI rfl).sI rfl).sI rfl).sL rfl
  have z8 : (sL (sI (sI (sI (sI σ 56 8 (0 : Int32)) 56 10 (0 : Int32)) 56 14 (0 : Int32)) 56 15 (0 : Int32)) 56 16 (0 : Int64)).1 56 8 = nI 0 := rfl
  have z10 : (sL (sI (sI (sI (sI σ 56 8 (0 : Int32)) 56 10 (0 : Int32)) 56 14 (0 : Int32)) 56 15 (0 : Int32)) 56 16 (0 : Int64)).1 56 10 = nI 0 := rfl
  have z14 : (sL (sI (sI (sI (sI σ 56 8 (0 : Int32)) 56 10 (0 : Int32)) 56 14 (0 : Int32)) 56 15 (0 : Int32)) 56 16 (0 : Int64)).1 56 14 = nI 0 := rfl
  have z15 : (sL (sI (sI (sI (sI σ 56 8 (0 : Int32)) 56 10 (0 : Int32)) 56 14 (0 : Int32)) 56 15 (0 : Int32)) 56 16 (0 : Int64)).1 56 15 = nI 0 := rfl
  have z16 : (sL (sI (sI (sI (sI σ 56 8 (0 : Int32)) 56 10 (0 : Int32)) 56 14 (0 : Int32)) 56 15 (0 : Int32)) 56 16 (0 : Int64)).2.1 56 16 = 0 := rfl
  have ze : envX m e (sL (sI (sI (sI (sI σ 56 8 (0 : Int32)) 56 10 (0 : Int32)) 56 14 (0 : Int32)) 56 15 (0 : Int32)) 56 16 (0 : Int64)) := hen.fr (S := fun c j => Nat.beq c 56 && Nat.ble 8 j) (((((Fr.rf.sI rfl).sI rfl).sI rfl).sI rfl).sL rfl) (fun _ => rfl) (fun _ => rfl) rfl
  have z2 : ∀ k, (sL (sI (sI (sI (sI σ 56 8 (0 : Int32)) 56 10 (0 : Int32)) 56 14 (0 : Int32)) 56 15 (0 : Int32)) 56 16 (0 : Int64)).2.1 2 k = σ.2.1 2 k := fun _ => rfl
  have zX : SX t n m (sL (sI (sI (sI (sI σ 56 8 (0 : Int32)) 56 10 (0 : Int32)) 56 14 (0 : Int32)) 56 15 (0 : Int32)) 56 16 (0 : Int64)) := by
    have hq : SX t n m (sI (sI (sI (sI σ 56 8 (0 : Int32)) 56 10 (0 : Int32)) 56 14 (0 : Int32)) 56 15 (0 : Int32)) := hX.fr ((((Fr.rf.sI rfl).sI rfl).sI rfl).sI rfl)
    obtain ⟨x1, x2, x3, x4, x5, x6, x7⟩ := hq
    exact ⟨x1, x2.eq fun c j h1 h2 => ⟨rfl, by
      show (sL _ 56 16 (0 : Int64)).2.1 (swM c) j = _
      rw [sL_o]
      · rfl
      · intro y
        rw [swM_hi h1 (by omega)] at y
        omega⟩, x3.eq fun j => rfl, x4, x5, x6, x7⟩
  have zr : (sL (sI (sI (sI (sI σ 56 8 (0 : Int32)) 56 10 (0 : Int32)) 56 14 (0 : Int32)) 56 15 (0 : Int32)) 56 16 (0 : Int64)).2.2 = σ.2.2 := rfl
  unfold ruS at hP
  have ef : (fun k => σ.2.1 2 k) = fun k => (sL (sI (sI (sI (sI σ 56 8 (0 : Int32)) 56 10 (0 : Int32)) 56 14 (0 : Int32)) 56 15 (0 : Int32)) 56 16 (0 : Int64)).2.1 2 k := funext fun k => (z2 k).symm
  rw [ef] at hP
  generalize sL (sI (sI (sI (sI σ 56 8 (0 : Int32)) 56 10 (0 : Int32)) 56 14 (0 : Int32)) 56 15 (0 : Int32)) 56 16 (0 : Int64) = σ1 at fz z8 z10 z14 z15 z16 ze z2 zX zr hP ⊢
  refine w_arg39 (d := d + 2) (σ0 := σ1) zX hf ha (fun σ2 e2 f2 o2 => ?_) (agN m f) 0 σ1 (Nat.zero_add _) rfl Fr.rf ⟨z8, Nat.zero_le _, trivial⟩
  have hR0 : (agS t (tyAt m (fnTy m f)) (fun k => σ1.2.1 2 k) (agN m f)).length = agN m f := agS_len _
  have p2 : PX m (rn0 t m f (fun k => σ1.2.1 2 k) e) σ2 := ⟨ze.fo f2, (f2 _ _ rfl).1.trans z14, (f2 _ _ rfl).1.trans z15, fun _ => ⟨o2, trivial, (f2 _ _ rfl).1.trans z10⟩⟩
  refine PX.en (d := d + 3) (fs := []) (zX.fo f2) hf p2 (by decide) (by rw [fl, List.nil_append, hR0]; omega) (by rw [fl, List.nil_append, hR0]; omega) ⟨fun _ => hR0, fun x ys y => by cases y⟩ fun σ3 e3 f3 p3 => ?_
  rw [sW_eq e3]
  have hRI : RI t n m N f (aEn m f (rn0 t m f (fun k => σ1.2.1 2 k) e)) := rn_RI hok ha he
  have hmu : mu t m N (aEn m f (rn0 t m f (fun k => σ1.2.1 2 k) e)) = 2 * (N - 0) + ((jB (jAt t m f (fiS (fiAt m f)))).length + 0) := rfl
  have hj1 : (jB (jAt t m f (fiS (fiAt m f)))).length = 1 := by rw [hok.st0]; rfl
  have f3' : Fr sRun σ1 σ3 := (f2.mono fun _ _ => sOp_run).tr (f3.mono fun _ _ => sCt_run)
  refine w_run (d := d) hN (2 * N + 1) 0 _ σ3 (zX.fr f3') hRI p3 (by show (0 : Nat) ≤ 8; decide) (by omega) (by omega) fun k s' σ4 hs' hE ht8 e4 f4 hX4 p4 => ?_
  have fA : Fr sRun σ1 σ4 := f3'.tr f4
  have fB : Fr sRg σ σ4 := fz.tr (fA.mono fun _ _ => sRun_rg)
  have eA : σ4.2.2 = σ.2.2 := e4.trans (e3.trans (e2.trans zr))
  have g16 : σ4.2.1 56 16 = 0 := (fA _ _ rfl).2.1.trans z16
  obtain ⟨u1, u2, u3, u4⟩ := id p4
  have hP := hP k s' 
  unfold rnA ruG at hP
  refine S_Machine_start_230 (hX4.2.2.2.1) ?_
  by_cases zS : sS s' = true
  · rw [if_pos zS] at hP ⊢
    rw [if_pos (.inl zS)] at hP
    exact ⟨fun y => absurd y (by decide), fun _ => ⟨eA, hP σ4 hs' hE ht8 eA fB u2 u3 g16 u1⟩⟩
  rw [if_neg zS] at hP ⊢
  refine ⟨fun _ => ?_, fun y => absurd rfl y⟩
  rw [u3]
  by_cases zT : sT s' = 0
  · rw [if_pos zT] at hP
    have hF : sF s' = [] := by
      rcases hE.1 with y | y | y
      · exact y
      · exact absurd zT y
      · exact absurd y zS
    obtain ⟨v1, v2, v3⟩ := u4 zT
    refine ⟨fun _ => ⟨by decide, ?_⟩, fun y => absurd (by rw [zT]; rfl) y⟩
    refine (hX4.gvs hf).mono fun z σ5 hz => ?_
    obtain ⟨x, rfl, eq1, hx, hs⟩ := Qi_s hz
    subst hx
    refine ⟨eq1, ?_⟩
    simp only [sW_eq eq1]
    rw [hs]
    obtain ⟨w1, w2, w3, w4⟩ := hE.2.2.2 hF
    by_cases zg : gvF m f = 0
    · rw [if_pos (.inr (.inr zg))] at hP
      refine ⟨fun y => absurd (by rw [zg]; rfl) y, fun _ => ⟨eA, ?_⟩⟩
      exact hP _ hs' hE ht8 eA (fB.sL rfl) u2 u3 sL_ss (u1.fr (S := fun c j => Nat.beq c 56 && Nat.beq j 16) (Fr.rf.sL rfl) (fun _ => rfl) (fun _ => rfl) rfl)
    · rw [if_neg (by rintro (y | y | y); exact zS y; exact y zT; exact zg y)] at hP
      refine ⟨fun _ => ?_, fun y => absurd ((nI_eq (b := 0) (by omega) (by decide)).mp y) zg⟩
      obtain ⟨v, hv⟩ := w3 zg
      rw [hF, hv] at v1
      rw [hv] at hP
      refine x_pop v1 fun σ5 e5 f5 o5 => ?_
      rw [sW_eq e5]
      exact ⟨e5.trans eA, hP _ hs' hE ht8 (e5.trans eA) ((fB.tr ((f5.mono fun _ _ => sOp_run).mono fun _ _ => sRun_rg)).sL rfl) ((f5 _ _ rfl).1.trans u2) ((f5 _ _ rfl).1.trans u3) sL_ss ((u1.fo f5).fr (S := fun c j => Nat.beq c 56 && Nat.beq j 16) (Fr.rf.sL rfl) (fun _ => rfl) (fun _ => rfl) rfl)⟩
  · rw [if_neg zT] at hP
    rw [if_pos (.inr (.inl zT))] at hP
    exact ⟨fun y => absurd ((nI_eq (b := 0) (by omega) (by decide)).mp y) zT, fun _ => ⟨eA, hP σ4 hs' hE ht8 eA fB u2 u3 g16 u1⟩⟩
end RUNX2
