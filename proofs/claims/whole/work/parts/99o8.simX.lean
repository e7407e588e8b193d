/-! A RUN, the class: one turn of its loop -/
def potJ (t : Nat → UInt8) (m : Md) : List Fm → Nat
  | [] => 0
  | x :: fs => (jB (jAt t m x.1 x.2.1)).length + potJ t m fs
def mu (t : Nat → UInt8) (m : Md) (N : Nat) (s : St) : Nat := 2 * (N - sK s) + potJ t m (sF s)
def fsL (m : Md) (fs : List Fm) : Prop := ∀ y ys, fs = y :: ys → y.1 < (mdU m).length ∧ y.2.2.1.length = loN m y.1
theorem fsOk.L {t : Nat → UInt8} {n : Nat} {m : Md} {pe : List Nat} {fs : List Fm} (h : fsOk t n m pe fs) : fsL m fs := fun y ys e => by
  subst e
  exact ⟨h.1.1.2, h.1.2.2.2.2.1.1⟩
abbrev W3 (d N v4 v5 T : Nat) (σ : fkS) (Q : Option Value → fkS → Prop) : Prop := Wq 105 (d + 1) 123 [some (.ref 56), none, none, some (.int (nI N)), some (.int (nI v4)), some (.int (nI v5)), some (.int (nI T)), none] [] σ Q
section SIMX
variable {t : Nat → UInt8} {n d f g i j k l tk N v4 T : Nat} {m : Md} {σ σ' : fkS} {L S R A B : List Int64} {e : Env} {sp : Bool} {fs : List Fm} {v w : Int64} {I : In} {Q : fkS → Prop} {QQ : Option Value → fkS → Prop}
theorem SX.rn (h : SX t n m σ) (f : Fr sRun σ σ') : SX t n m σ' := h.fr f
theorem c_going (hX : SX t n m σ) (h : PX m ((f, i, L, S) :: fs, R, e, tk, 0, sp) σ) (hfs : fs.length ≤ 63) (hi : i < (mdC m).2.length) : Di d 108 [.ref 56] σ (fun x σ' => x = 1 ∧ σ' = σ) := by
  obtain ⟨t1, t2, t3, t4⟩ := h
  obtain ⟨-, -, u1, u2, -⟩ := t4 rfl
  have u1 : σ.1 56 10 = nI (fs.length + 1) := u1
  have u2 : σ.1 56 11 = nI i := u2
  have t3 : σ.1 56 15 = nI 0 := t3
  have hl := hX.1.2.2.2.2.2.2.1
  refine S_Machine_going (Q := Qi _) hX.2.2.2.2.1 ?_
  rw [u1, u2, t3, hX.cnt]
  exact ⟨fun z => absurd z (nI_nle (by omega) (by omega)), fun _ => ⟨fun z => absurd rfl z, fun _ => ⟨fun z => absurd z (nI_pos (by omega)), fun _ => ⟨by decide, fun z => absurd z (nI_ge hi (by omega)), fun _ => ⟨rfl, rfl, rfl⟩⟩⟩⟩⟩
theorem w_head (hX : SX t n m σ) (hT : T < 1000000) (h : PX m ((f, i, L, S) :: fs, R, e, tk, 0, sp) σ) (hfs : fs.length ≤ 63) (hI : (mdC m).2[i]? = some I) (htk : tk ≤ 20000) (hN : N ≤ 20000)
    (k5 : iOp I = 5 → Dv d 109 [.ref 56, .int (nI 5)] σ (fun σ3 => W3 d N v4 0 (T + 1) (sW σ3 σ) QQ)) (k11 : iOp I = 11 → Dv d 109 [.ref 56, .int (nI 11)] σ (fun σ3 => W3 d N v4 0 (T + 1) (sW σ3 σ) QQ))
    (kN : iOp I ≠ 5 → iOp I ≠ 11 → N ≤ tk → W3 d N v4 1 (T + 1) σ QQ) (kS : iOp I ≠ 5 → iOp I ≠ 11 → tk < N → Dv d 112 [.ref 56, .int (nI (iOp I)), .int (nI i)] (sI (sI σ 56 14 (nI (tk + 1))) 56 11 (nI (i + 1))) (fun σ4 => W3 d N v4 0 (T + 1) (sW σ4 σ) QQ)) : W3 d N v4 0 T σ QQ := by
  have hi := get_lt hI
  have hl := hX.1.2.2.2.2.2.2.1
  obtain ⟨t1, t2, t3, t4⟩ := id h
  obtain ⟨-, -, u1, u2, -⟩ := t4 rfl
  have t2 : σ.1 56 14 = nI tk := t2
  have u2 : σ.1 56 11 = nI i := u2
  have hop := (hX.DC.2.1 i I hI).2
  have hr := (hX.row hI).1
  refine S_Machine_start_123 hX.2.2.2.2.1 ⟨fun z => absurd z (nI_ge (b := 1000000) hT (by decide)), fun _ => ?_⟩
  refine (c_going hX h hfs hi).mono fun z σ1 hz => ?_
  obtain ⟨x, rfl, eq1, hx, hs⟩ := Qi_s hz
  subst hx
  refine ⟨eq1, ?_⟩
  simp only [sW_eq eq1]
  rw [hs]
  refine ⟨fun z => absurd z (by decide), fun _ => ⟨fun z => absurd rfl z, fun _ => ?_⟩⟩
  rw [u2, nI_clamp (n := i) (by omega), hr, t2, nI_1, nI_1, nI_pred, nI_1]
  refine ⟨by decide, vp_in_nI (by omega) (by decide), fun z => ?_, fun z => ?_⟩
  · have z5 : iOp I = 5 := (nI_eq (b := 5) (by omega) (by decide)).mp z
    rw [z5]
    exact k5 z5
  have z5 : iOp I ≠ 5 := fun y => z (by rw [y]; rfl)
  refine ⟨fun z => ?_, fun z => ?_⟩
  · have z11 : iOp I ≠ 11 := fun y => z (by rw [y]; rfl)
    exact pk_lt tk N (fun y => kS z5 z11 y) fun y => kN z5 z11 y
  · have z11 : iOp I = 11 := (nI_eq (b := 11) (by omega) (by decide)).mp z
    rw [z11]
    exact k11 z11
/-- an 11 -/
theorem w_t11 (hX : SX t n m σ) (hf : okFn t n m f) (hT : T < 1000000) (h : PX m ((f, i, L, S) :: fs, [], e, tk, 0, sp) σ) (hfs : fs.length ≤ 63) (h1 : fiS (fiAt m f) ≤ i) (h2 : i ≤ fiE (fiAt m f)) (hI : (mdC m).2[i]? = some I) (h11 : iOp I = 11) (htk : tk ≤ 20000) (hN : N ≤ 20000) (hv : sk (mdC m).2 i = [] → gvF m f ≠ 0 → ∃ v r, S = v :: r) (hL : fsL m fs)
    (hk : ∀ σ', σ'.2.2 = σ.2.2 → Fr sRun σ σ' → PX m (if sk (mdC m).2 i = [] then aLv m ((f, i, L, S) :: fs, [], e, tk, 0, sp) else ((f, i + 1, L, S) :: fs, [], e, tk, 0, sp)) σ' → W3 (d + 3) N v4 0 (T + 1) σ' QQ) : W3 (d + 3) N v4 0 T σ QQ := by
  obtain ⟨l1, l2, l3, l4, l5, l6, l7⟩ := hX.lens hf.2
  have hfU : f < (mdU m).length := hf.2
  refine w_head hX hT h hfs hI htk hN (fun z => by omega) (fun _ => ?_) (fun _ z => absurd h11 z) fun _ z => absurd h11 z
  obtain ⟨t1, t2, t3, t4⟩ := id h
  obtain ⟨-, ⟨q1, -⟩, u1, u2, -⟩ := t4 rfl
  have q1 : σ.1 61 (3 * fs.length) = nI f := q1
  have u1 : σ.1 56 10 = nI (fs.length + 1) := u1
  have u2 : σ.1 56 11 = nI i := u2
  have e30 : (3 : Int32) * nI fs.length = nI (3 * fs.length) := by rw [show (3 : Int32) = nI 3 from rfl, nI_mul]
  refine S_Machine_mark (Q := Qv _) hX.2.2.2.2.1 ⟨fun _ => ?_, fun z => absurd z (by decide)⟩
  rw [u1, u2, nI_pred, e30, nI_clamp (n := 3 * fs.length) (by omega), q1, nI_clamp (n := f) (by omega), (hX.fi hf.2).2.1, nI_1]
  refine ⟨by decide, vp_in_nI (by omega) (by decide), vp_in_nI (by omega) (by decide), ?_⟩
  have hE : sk (mdC m).2 (fiE (fiAt m f)) = [] := by
    obtain ⟨-, I9, -, -, s6⟩ := hf.rd.1
    exact s6
  refine And.comm.mp (pk_eq i (fiE (fiAt m f)) (fun z => ?_) fun z => ?_)
  · rw [z, if_pos hE, ← z] at hk
    refine PX.lv hX hf.2 h hfs (hv (by rw [z]; exact hE)) hL fun σ1 e1 f1 p1 => ?_
    simp only [sW_eq e1]
    refine ⟨e1, ?_⟩
    show W3 (d + 3) N v4 0 (T + 1) (sW σ1 σ) QQ
    rw [sW_eq e1]
    exact hk σ1 e1 (f1.mono fun _ _ => sCt_run) p1
  · have hsk : ¬ sk (mdC m).2 i = [] := fun y => hf.fF.2.2.2 i I h1 hI (by omega) ⟨h11, y⟩
    rw [if_neg hsk] at hk
    refine ⟨rfl, ?_⟩
    show W3 (d + 3) N v4 0 (T + 1) (sW (sI σ 56 11 (nI (i + 1))) σ) QQ
    rw [sW_eq (show (sI σ 56 11 (nI (i + 1))).2.2 = σ.2.2 from rfl)]
    exact hk _ rfl (Fr.rf.sI rfl) h.nx
/-- a 5 -/
theorem w_t5 (hX : SX t n m σ) (hf : okFn t n m f) (hT : T < 1000000) (h : PX m ((f, i, L, S) :: fs, [], e, tk, 0, sp) σ) (hfs : fs.length ≤ 63) (hI : (mdC m).2[i]? = some I) (h5 : iOp I = 5) (hc : clo (mdC m).2 i) (htk : tk ≤ 20000) (hN : N ≤ 20000)
    (hk : ∀ σ', σ'.2.2 = σ.2.2 → Fr sRun σ σ' → PX m ((f, nx (mdC m).2 i + 1, L, S) :: fs, [], e, tk, 0, sp) σ' → W3 (d + 3) N v4 0 (T + 1) σ' QQ) : W3 (d + 3) N v4 0 T σ QQ := by
  have hi := get_lt hI
  have hl := hX.1.2.2.2.2.2.2.1
  refine w_head hX hT h hfs hI htk hN (fun _ => ?_) (fun z => by omega) (fun z => absurd h5 z) fun z => absurd h5 z
  obtain ⟨t1, t2, t3, t4⟩ := id h
  obtain ⟨-, -, u1, u2, -⟩ := t4 rfl
  have u2 : σ.1 56 11 = nI i := u2
  refine S_Machine_mark (Q := Qv _) hX.2.2.2.2.1 ⟨fun z => absurd rfl z, fun _ => ?_⟩
  rw [u2, nI_clamp (n := i) (by omega), hX.sec hc, nI_1]
  refine ⟨by decide, vp_in_nI (by omega) (by decide), rfl, ?_⟩
  show W3 (d + 3) N v4 0 (T + 1) (sW (sI σ 56 11 (nI (nx (mdC m).2 i + 1))) σ) QQ
  rw [sW_eq (show (sI σ 56 11 (nI (nx (mdC m).2 i + 1))).2.2 = σ.2.2 from rfl)]
  exact hk _ rfl (Fr.rf.sI rfl) h.nx
/-! the INSTRUCTIONS that a run goes on by -/
theorem x_low (hX : SX t n m σ) (hI : (mdC m).2[i]? = some I) (h17 : iOp I ≤ 17) (h : Cl (d + 1) 113 [.ref 56, .int (nI (iOp I)), .int (nI i)] σ (Qv fun σ' => σ'.2.2 = σ.2.2 ∧ Q σ')) : Dv (d + 2) 112 [.ref 56, .int (nI (iOp I)), .int (nI i)] σ Q := by
  refine S_Machine_step (Q := Qv _) hX.2.2.2.2.1 ⟨fun z => absurd z (nI_nlt (b := iOp I) h17 (by decide)), fun _ => h.mono fun x σ1 hx => ?_⟩
  obtain ⟨rfl, e1, hp⟩ := Qv_s hx
  refine ⟨e1, ?_⟩
  show Qv (fun σ' => σ'.2.2 = σ.2.2 ∧ Q σ') none (sW σ1 σ)
  rw [sW_eq e1]
  exact ⟨e1, hp⟩
theorem SX.i4 (hX : SX t n m σ) (hI : (mdC m).2[i]? = some I) : i < 4000 := by
  have := hX.1.2.2.2.2.2.2.1
  have := get_lt hI
  omega
theorem SX.fst (hX : SX t n m σ) (hI : (mdC m).2[i]? = some I) : (isBr (iOp I) → (σ.2.1 21 i).toInt32 = nI (lbB (mdC m).2 i)) ∧ (¬ isBr (iOp I) → (σ.2.1 21 i).toInt32 = nI (iB I)) := by
  have hrow := (hX.row hI).2.1
  rw [hrow]
  unfold iFirst
  exact ⟨fun z => by rw [if_pos (show iOp I = 12 ∨ iOp I = 13 ∨ iOp I = 14 from z), lN_i], fun z => by rw [if_neg (show ¬ (iOp I = 12 ∨ iOp I = 13 ∨ iOp I = 14) from z)]; exact (iB_nI I).1⟩
theorem x_0 (hX : SX t n m σ) (hI : (mdC m).2[i]? = some I) (h0 : iOp I = 0) {s : St} (h : PX m s σ) (hQ : ∀ σ', σ'.2.2 = σ.2.2 → Fr sCt σ σ' → PX m (withT s 1) σ' → Q σ') : Dv (d + 2) 112 [.ref 56, .int (nI (iOp I)), .int (nI i)] σ Q := by
  refine x_low hX hI (by omega) ?_
  rw [h0]
  refine S_Machine_control (Q := Qv _) hX.2.2.2.2.1 ⟨by decide, vp_in_nI (hX.i4 hI) (by decide), ?_⟩
  have fin : σ.2.2 = σ.2.2 ∧ Q (sI σ 56 15 (1 : Int32)) := ⟨rfl, hQ _ rfl (Fr.rf.sI rfl) ⟨h.1.ct (Fr.rf.sI rfl), h.2.1, sI_ss, fun w => absurd w (show ¬ (1 : Nat) = 0 by decide)⟩⟩
  repeat' apply And.intro
  all_goals first | exact trivial | (intro z; first | exact absurd z (by decide) | skip)
  all_goals exact fin
theorem x_23 (hX : SX t n m σ) (hI : (mdC m).2[i]? = some I) (h23 : iOp I = 2 ∨ iOp I = 3) (hQ : Q σ) : Dv (d + 2) 112 [.ref 56, .int (nI (iOp I)), .int (nI i)] σ Q := by
  refine x_low hX hI (by omega) ?_
  have fin : σ.2.2 = σ.2.2 ∧ Q σ := ⟨rfl, hQ⟩
  rcases h23 with h | h
  · rw [h]
    refine S_Machine_control (Q := Qv _) hX.2.2.2.2.1 ⟨by decide, vp_in_nI (hX.i4 hI) (by decide), ?_⟩
    repeat' apply And.intro
    all_goals first | exact trivial | (intro z; first | exact absurd z (by decide) | skip)
    all_goals exact fin
  · rw [h]
    refine S_Machine_control (Q := Qv _) hX.2.2.2.2.1 ⟨by decide, vp_in_nI (hX.i4 hI) (by decide), ?_⟩
    repeat' apply And.intro
    all_goals first | exact trivial | (intro z; first | exact absurd z (by decide) | skip)
    all_goals exact fin
theorem x_4 {c : Int64} {r : List Int64} (hX : SX t n m σ) (hI : (mdC m).2[i]? = some I) (h4 : iOp I = 4) (hc : clo (mdC m).2 i) (h : PX m ((f, j, L, c :: r) :: fs, R, e, tk, 0, sp) σ) (hQ : ∀ σ', σ'.2.2 = σ.2.2 → Fr sCt σ σ' → PX m ((f, (if c.toInt32 = 0 then nx (mdC m).2 i + 1 else j), L, r) :: fs, R, e, tk, 0, sp) σ' → Q σ') : Dv (d + 2) 112 [.ref 56, .int (nI (iOp I)), .int (nI i)] σ Q := by
  have hi := hX.i4 hI
  refine x_low hX hI (by omega) ?_
  rw [h4]
  refine S_Machine_control (Q := Qv _) hX.2.2.2.2.1 ⟨by decide, vp_in_nI hi (by decide), ?_⟩
  have go : Dj d 111 [.ref 56] σ (fun x2 σ1 => ((¬ x2.toInt32 = 0 → Qv (fun σ' => σ'.2.2 = σ.2.2 ∧ Q σ') none (sW σ1 σ)) ∧ (x2.toInt32 = 0 → (¬ (16 : Nat) = 0 ∧ (vp_in (nI i) 4000 ∧ Qv (fun σ' => σ'.2.2 = σ.2.2 ∧ Q σ') none (sI (sW σ1 σ) 56 11 (((sW σ1 σ).1 22 (nI i).toNatClampNeg) + (1 : Int32)))))))) := by
    refine x_pop h.ox fun σ1 e1 f1 o1 => ?_
    simp only [sW_eq e1]
    have p1 : PX m ((f, j, L, r) :: fs, R, e, tk, 0, sp) σ1 := h.op f1 o1 rfl
    have fc := f1.mono fun _ _ => sOp_ct
    refine ⟨fun z => ?_, fun z => ?_⟩
    · rw [if_neg z] at hQ
      exact ⟨e1, hQ σ1 e1 fc p1⟩
    · rw [if_pos z] at hQ
      rw [nI_clamp (n := i) (by omega), (hX.fo f1).sec hc, nI_1]
      exact ⟨by decide, vp_in_nI hi (by decide), e1, hQ _ e1 (fc.sI rfl) p1.nx⟩
  repeat' apply And.intro
  all_goals first | exact trivial | (intro z; first | exact absurd z (by decide) | skip)
  all_goals exact go
theorem x_15 (hX : SX t n m σ) (hI : (mdC m).2[i]? = some I) (h15 : iOp I = 15) (hg : f < (mdU m).length) (h : PX m ((f, j, L, S) :: fs, [], e, tk, 0, sp) σ) (hfs : fs.length ≤ 63) (hv : gvF m f ≠ 0 → ∃ v r, S = v :: r) (hL : fsL m fs) (hQ : ∀ σ', σ'.2.2 = σ.2.2 → Fr sCt σ σ' → PX m (aLv m ((f, j, L, S) :: fs, [], e, tk, 0, sp)) σ' → Q σ') : Dv (d + 4) 112 [.ref 56, .int (nI (iOp I)), .int (nI i)] σ Q := by
  refine x_low (d := d + 2) hX hI (by omega) ?_
  rw [h15]
  refine S_Machine_control (Q := Qv _) hX.2.2.2.2.1 ⟨by decide, vp_in_nI (hX.i4 hI) (by decide), ?_⟩
  have go : Dv (d + 2) 110 [.ref 56] σ (fun σ10 => Qv (fun σ' => σ'.2.2 = σ.2.2 ∧ Q σ') none (sW σ10 σ)) := PX.lv hX hg h hfs hv hL fun σ1 e1 f1 p1 => by
    rw [sW_eq e1]
    exact ⟨e1, hQ σ1 e1 f1 p1⟩
  repeat' apply And.intro
  all_goals first | exact trivial | (intro z; first | exact absurd z (by decide) | skip)
  all_goals exact go
theorem x_16 (hX : SX t n m σ) (hI : (mdC m).2[i]? = some I) (h16 : iOp I = 16) (hg : iB I < (mdU m).length) (h : PX m ((f, j, L, S) :: fs, [], e, tk, 0, sp) σ) (hfs : fs.length ≤ 63) (hA : agN m (iB I) ≤ S.length) (hl : (fl ((f, j, L, S) :: fs)).length + 50 ≤ 24000) (hQ : ∀ σ', σ'.2.2 = σ.2.2 → Fr sCt σ σ' → PX m (aEn m (iB I) ((f, j, L, S) :: fs, [], e, tk, 0, sp)) σ' → Q σ') : Dv (d + 4) 112 [.ref 56, .int (nI (iOp I)), .int (nI i)] σ Q := by
  have hi := hX.i4 hI
  refine x_low (d := d + 2) hX hI (by omega) ?_
  have hf := (hX.fst hI).2 (by unfold isBr; omega)
  have k11 : σ.1 56 11 = nI j := (h.2.2.2 rfl).2.2.2.1
  rw [h16]
  refine S_Machine_control (Q := Qv _) hX.2.2.2.2.1 ⟨by decide, vp_in_nI hi (by decide), ?_⟩
  rw [nI_clamp (n := i) (by omega), hf, k11]
  have go : Dv (d + 2) 107 [.ref 56, .int (nI (iB I)), .int (nI j)] σ (fun σ10 => Qv (fun σ' => σ'.2.2 = σ.2.2 ∧ Q σ') none (sW σ10 σ)) := by
    refine PX.en (fs := (f, j, L, S) :: fs) (R := []) hX hg h (by show fs.length + 1 ≤ 64; omega) ?_ (by rw [List.append_nil]; exact hl) ⟨fun y => (by cases y), fun x ys hxy => ?_⟩ fun σ1 e1 f1 p1 => ?_
    · rw [List.append_nil]
      show agN m (iB I) ≤ (S ++ (L.reverse ++ fl fs)).length
      rw [List.length_append]
      omega
    · cases hxy
      exact ⟨rfl, hA⟩
    · rw [sW_eq e1]
      exact ⟨e1, hQ σ1 e1 f1 p1⟩
  repeat' apply And.intro
  all_goals first | exact trivial | (intro z; first | exact absurd z (by decide) | skip)
  all_goals exact go
theorem x_17 {c : Int64} {r : List Int64} (hX : SX t n m σ) (hI : (mdC m).2[i]? = some I) (h17 : iOp I = 17) (hty : iB I < (mdT m).length) (htb : tbN m ≤ 100) (hfl : f < (mdU m).length) (h : PX m ((f, j, L, c :: r) :: fs, [], e, tk, 0, sp) σ) (hfs : fs.length + 1 ≤ 64) (hl : (fl ((f, j, L, c :: r) :: fs)).length + 50 ≤ 24000) (hA : ∀ g, g < (mdU m).length → sameT t m (iB I) (fnTy m g) = true → agN m g ≤ r.length)
    (hQ : ∀ σ', σ'.2.2 = σ.2.2 → Fr sCt σ σ' → PX m (if tbN m ≤ lo32 c then ((f, j, L, c :: r) :: fs, [], e, tk, 5, sp) else if atTb m (lo32 c) < 0 then ((f, j, L, c :: r) :: fs, [], e, tk, 6, sp) else if sameT t m (iB I) (fnTy m (atTb m (lo32 c)).toNatClampNeg) = false then ((f, j, L, c :: r) :: fs, [], e, tk, 7, sp) else aEn m (atTb m (lo32 c)).toNatClampNeg ((f, j, L, r) :: fs, [], e, tk, 0, sp)) σ' → Q σ') : Dv (d + 5) 112 [.ref 56, .int (nI (iOp I)), .int (nI i)] σ Q := by
  have hi := hX.i4 hI
  refine x_low (d := d + 3) hX hI (by omega) ?_
  have hf := (hX.fst hI).2 (by unfold isBr; omega)
  rw [h17]
  refine S_Machine_control (Q := Qv _) hX.2.2.2.2.1 ⟨by decide, vp_in_nI hi (by decide), ?_⟩
  rw [nI_clamp (n := i) (by omega), hf]
  have go : Dv (d + 3) 115 [.ref 56, .int (nI (iB I))] σ (fun σ10 => Qv (fun σ' => σ'.2.2 = σ.2.2 ∧ Q σ') none (sW σ10 σ)) := PX.ci hX hty htb hfl h hfs hl hA fun σ1 e1 f1 p1 => by
    rw [sW_eq e1]
    exact ⟨e1, hQ σ1 e1 f1 p1⟩
  repeat' apply And.intro
  all_goals first | exact trivial | (intro z; first | exact absurd z (by decide) | skip)
  all_goals exact go
end SIMX
