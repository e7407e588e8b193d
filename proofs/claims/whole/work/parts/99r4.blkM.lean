/-! RUNNING, the reference: block, loop, if; types that are the same -/
section BLKM
variable {t : Nat → UInt8} {n b N d f i j k p q tk lab : Nat} {m : Md} {σ σ' : fkS} {L L2 S S2 A : List Int64} {e e2 : Env} {fs : List Fm} {v w : Int64} {I : In} {Q : fkS → Prop} {J : JS} {bk : Bk} {P : Int32 → fkS → Prop}
theorem SM.hw (hS : SM t n b N m σ) : sk (mdC m).2 (mdC m).2.length = [] := hS.2.2.2.2.2.2.1.2.2.2.2.2.2.2.2.2.2.2
theorem m_blocksOn (hS : SM t n b N m σ) (hf : okFn t n m f) (h1 : fiS (fiAt m f) ≤ i) (h2 : i ≤ fiE (fiAt m f)) (hI : (mdC m).2[i]? = some I) (h24 : 2 ≤ iOp I ∧ iOp I ≤ 4) (hl : lv (jAt t m f i)) (hT : tyd S (jT (jAt t m f i))) (h : PQ t m ((f, i, L, S) :: fs, [], e, tk, 0, false) p σ) (hnl : nlb t m fs ≤ 1323)
    (h23 : iOp I ≠ 4 → ∀ σ', Fr sRi σ σ' → PQ t m ((f, i + 1, L, S) :: fs, [], e, tk, 0, false) (posOf (mdC m).2 (i + 1)) σ' → Q σ') (h4 : iOp I = 4 → ∀ c r, S = c :: r → ∀ σ', Fr sRi σ σ' → PQ t m ((f, (if c.toInt32 = 0 then nx (mdC m).2 i + 1 else i + 1), L, r) :: fs, [], e, tk, 0, false) (posOf (mdC m).2 (if c.toInt32 = 0 then nx (mdC m).2 i + 1 else i + 1)) σ' → Q σ') : Cv (d + 3) 306 [.ref 103, .int (nI (iOp I)), .int (nI I.1)] σ Q := by
  obtain ⟨l1, l2, l3, l4, l5⟩ := hf.in24 h1 h2 hI hl h24
  obtain ⟨y1, y2⟩ := hf.byte h1 h2 hI
  obtain ⟨z1, z2, z3⟩ := hf.bty h1 h2 hI h24
  have z3 := z3 l1
  have hlen := hT.len
  have hb2 := hS.2.1
  have hn4 := hS.1.2.2.2.2.2.1
  have f0 : Fr s40 σ (sI σ 103 40 (nI (I.1 + 2))) := Fr.rf.sI rfl
  have e2 : nI I.1 + (2 : Int32) = nI (I.1 + 2) := nI_add I.1 2
  have hcl := clo_open hS.hw hI h24
  refine S_M_blocksOn ?_
  rw [e2]
  refine ⟨fun z => ?_, fun z => ?_⟩
  · have z : iOp I ≠ 4 := fun y => z (by rw [y]; rfl)
    refine w_bl68 (S0 := S) hf h1 l1 hI (i2 := i + 1) (by rw [l5, l3 z, hlen]) (h.to f0 sI_ss) z3.symm hnl fun σ1 f1 q1 => h23 z σ1 ((f0.mono fun _ _ => s40_ri).tr f1) q1
  · have z : iOp I = 4 := (nI_eq (b := 4) (by omega) (by decide)).mp z
    obtain ⟨w1, w2, w3, w4, w5⟩ := hf.if0 h1 h2 hI hl z
    rw [l4 z] at hT
    obtain ⟨c, r, rfl, hc, hr⟩ := hT.un
    have hlr := hr.len
    have h4 := h4 z c r rfl
    have h0 := h.to f0 (q := I.1 + 2) sI_ss
    refine m_popInt h0.ox fun σ1 f1 o1 => ?_
    have h3 := h0.pop f1 o1
    have f3 : Fr sRi σ σ1 := (f0.mono fun _ _ => s40_ri).tr (f1.mono fun _ _ => sOm_ri)
    have hS1 := hS.fr f3
    refine ⟨fun y => ?_, fun y => ?_⟩
    · rw [if_neg y] at h4
      exact w_bl68 (S0 := r) hf h1 l1 hI (i2 := i + 1) (by rw [l5, hlr]) h3 z3.symm hnl fun σ2 f2 q2 => h4 σ2 (f3.tr f2) q2
    · rw [if_pos y] at h4
      have hI2lt : nx (mdC m).2 i < (mdC m).2.length := Nat.lt_trans w2 hf.fF.2.1
      have hI2 : (mdC m).2[nx (mdC m).2 i]? = some (mdC m).2[nx (mdC m).2 i] := List.getElem?_eq_getElem hI2lt
      generalize hII2 : (mdC m).2[nx (mdC m).2 i] = I2 at hI2
      have hpo2 := posOf_get hI2
      have hpo : posOf (mdC m).2 i = I.1 := posOf_get hI
      rw [hS1.2.2.1, ex4, nI_clamp (n := 4000 * b + I.1) (by omega)]
      refine ⟨vp_in_nI (by omega) (by decide), ?_⟩
      rcases w5 with ⟨u1, u2, u3⟩ | ⟨u1, u2, ⟨x, u3⟩, u4⟩
      · -- with an else
        have hc2 := clo_else hS.hw hcl u1
        obtain ⟨-, -, o', r', g1⟩ := nx_get hc2
        have he : endI (mdC m).2 i = nx (mdC m).2 (nx (mdC m).2 i) := by
          unfold endI
          rw [if_pos u1]
        obtain ⟨⟨r1, r2, r3, x, r4⟩, -⟩ := hf.reg h1 h2 hI h24
        rw [he, g1] at r4
        have hx : nx (mdC m).2 i = x := congrArg Prod.snd (List.cons.inj r4).1
        have hlt : endI (mdC m).2 i < (mdC m).2.length := Nat.lt_trans r2 hf.fF.2.1
        have hI3 : (mdC m).2[endI (mdC m).2 i]? = some (mdC m).2[endI (mdC m).2 i] := List.getElem?_eq_getElem hlt
        rw [opC_get hI3] at r3
        have he3 := (hS1.ends (o := i) (x := x) (r := sk (mdC m).2 i) hI3 r3 (by rw [he, g1]; exact r4)).2
        rw [← hx, hpo] at he3
        unfold eV at he3
        rw [if_neg (by omega), hpo2] at he3
        rw [opC_get hI2] at u1
        have hb3 := hf.byte (i := nx (mdC m).2 i) (by omega) (by omega) hI2
        have hnx := hf.nx1 (by omega) w2 hI2 (.inr (.inr (.inl u1)))
        rw [he3, nI_1, ← hnx]
        refine ⟨fun _ => ?_, fun w => absurd (nI_pos' (by omega)) w⟩
        have f4 : Fr s40 σ1 (sI σ1 103 40 (nI (posOf (mdC m).2 (nx (mdC m).2 i + 1)))) := Fr.rf.sI rfl
        exact w_bl68 (S0 := r) hf h1 l1 hI (i2 := nx (mdC m).2 i + 1) (by rw [u3, l5, hlr]) (h3.to f4 sI_ss) rfl hnl fun σ2 f2 q2 => h4 σ2 (f3.tr ((f4.mono fun _ _ => s40_ri).tr f2)) q2
      · -- with none
        obtain ⟨-, -, o', r', g1⟩ := nx_get hcl
        rw [g1] at u3
        have hx : i = x := congrArg Prod.snd (List.cons.inj u3).1
        rw [opC_get hI2] at u1
        obtain ⟨he2, he3⟩ := hS1.ends (o := i) (x := x) (r := sk (mdC m).2 i) hI2 u1 (by rw [g1]; exact u3)
        rw [← hx, hpo] at he3
        rw [hpo] at he2
        unfold eV at he3
        rw [if_pos rfl] at he3
        have hnx := hf.nx1 (by omega) w2 hI2 (.inr (.inr (.inr (.inl u1))))
        rw [he3]
        refine ⟨fun w => absurd w (by decide), fun _ => ⟨vp_in_nI (by omega) (by decide), ?_⟩⟩
        show Q (sI σ1 103 40 (σ1.1 138 (4000 * b + I.1) + 1))
        rw [he2, nI_1, ← hnx]
        have f4 : Fr s40 σ1 (sI σ1 103 40 (nI (posOf (mdC m).2 (nx (mdC m).2 i + 1)))) := Fr.rf.sI rfl
        refine h4 _ (f3.tr (f4.mono fun _ _ => s40_ri)) (h3.mv (subB.eq u4) (fun y => ?_) (f4.mono fun c j h => ?_) sI_ss)
        · rw [u4]
          exact y
        · unfold s40 at h
          simp only [Bool.or_eq_true, Bool.and_eq_true, Nat.beq_eq] at h ⊢
          omega
/-! types -/
theorem SM.ty (hS : SM t n b N m σ) {k : Nat} (hk : k < (mdT m).length) : rTM t (60 * b + k) (tyAt m k) σ := (hS.2.2.2.2.2.2.1.1.1 k _ (tyAt_get hk)).2
theorem w_same39 {a c : Nat} (hS : SM t n b N m σ) (ha : a < (mdT m).length) (hc : c < (mdT m).length) (he : (tyAt m a).2.1 = (tyAt m c).2.1) (hg : (tyAt m a).2.2 = (tyAt m c).2.2) (hP : P (b2i (sameT t m a c)) σ) :
    ∀ (r k : Nat), k + r = (tyAt m a).2.1 → (∀ j, j < k → t ((tyAt m a).1 + j) = t ((tyAt m c).1 + j)) → Wq 309 d 39 [some (.ref 103), some (.int (nI (60 * b + a))), some (.int (nI (60 * b + c))), some (.int (1 : Int32)), some (.int (nI k))] [] σ (Qi P)
  | r, k, hk, hj => by
    have l1 : (mdT m).length ≤ 60 := hS.1.1.1
    have hb2 := hS.2.1
    have f1 : (tyAt m a).2.1 ≤ 60 := (hS.1.2.1.1 _ (List.mem_of_getElem? (tyAt_get ha))).1
    obtain ⟨a1, a2, a3⟩ := hS.ty ha
    obtain ⟨c1, c2, c3⟩ := hS.ty hc
    refine S_M_isSame_39 ?_
    rw [nI_clamp (n := 60 * b + a) (by omega), a1]
    refine ⟨vp_in_nI (by omega) (by decide), ?_⟩
    match r with
    | 0 =>
      have hk : k = (tyAt m a).2.1 := by omega
      subst hk
      refine pk_le (tyAt m a).2.1 (tyAt m a).2.1 (fun _ => ?_) fun z => absurd z (by omega)
      have : sameT t m a c = true := by
        unfold sameT
        rw [Bool.and_eq_true, Bool.and_eq_true, decide_eq_true_iff, decide_eq_true_iff, List.all_eq_true]
        exact ⟨⟨he, hg⟩, fun j hm => decide_eq_true (hj j (List.mem_range.mp hm))⟩
      rw [this] at hP
      exact bz_b true hP
    | r + 1 =>
      refine pk_le (tyAt m a).2.1 k (fun z => absurd z (by omega)) fun _ => ⟨fun z => absurd z (by decide), fun _ => ?_⟩
      have e60 : ∀ x : Nat, (60 : Int32) * nI x + nI k = nI (60 * x + k) := fun x => by rw [show (60 : Int32) = nI 60 from rfl, nI_mul, nI_add]
      rw [e60, e60, nI_clamp (n := 60 * (60 * b + a) + k) (by omega), nI_clamp (n := 60 * (60 * b + c) + k) (by omega), a2 k (by omega), c2 k (by omega), nI_1]
      refine ⟨vp_in_nI (by omega) (by decide), vp_in_nI (by omega) (by decide), ?_⟩
      have ha1 := (t ((tyAt m a).1 + k)).toNat_lt
      have hb1 := (t ((tyAt m c).1 + k)).toNat_lt
      refine And.comm.mp (pk_eq (t ((tyAt m a).1 + k)).toNat (t ((tyAt m c).1 + k)).toNat (fun z => ?_) (fun z => ?_) (ha := by omega) (hb := by omega))
      · refine w_same39 hS ha hc he hg hP r (k + 1) (by omega) fun j h => ?_
        by_cases y : j = k
        · rw [y]
          exact UInt8.toNat_inj.mp z
        · exact hj j (by omega)
      · have hf : sameT t m a c = false := by
          cases hh : sameT t m a c with
          | false => rfl
          | true =>
            unfold sameT at hh
            rw [Bool.and_eq_true, Bool.and_eq_true, List.all_eq_true] at hh
            have := hh.2 k (List.mem_range.mpr (by omega))
            rw [decide_eq_true_iff] at this
            exact absurd (congrArg UInt8.toNat this) z
        rw [hf] at hP
        have fin : fk_bz (0 : Int32) (Qi P (some (.int (0 : Int32))) σ) := bz_b false hP
        refine S_M_isSame_39 ?_
        rw [nI_clamp (n := 60 * b + a) (by omega), a1]
        exact ⟨vp_in_nI (by omega) (by decide), fun _ => fin, fun _ => ⟨fun _ => fin, fun y => absurd rfl y⟩⟩
theorem m_same {a c : Nat} (hS : SM t n b N m σ) (ha : a < (mdT m).length) (hc : c < (mdT m).length) (hP : P (b2i (sameT t m a c)) σ) : Ci d 309 [.ref 103, .int (nI (60 * b + a)), .int (nI (60 * b + c))] σ P := by
  have l1 : (mdT m).length ≤ 60 := hS.1.1.1
  have hb2 := hS.2.1
  obtain ⟨f1, -, -, f4⟩ := hS.1.2.1.1 _ (List.mem_of_getElem? (tyAt_get ha))
  obtain ⟨g1, -, -, g4⟩ := hS.1.2.1.1 _ (List.mem_of_getElem? (tyAt_get hc))
  unfold isT at f4 g4
  obtain ⟨a1, a2, a3⟩ := hS.ty ha
  obtain ⟨c1, c2, c3⟩ := hS.ty hc
  have no : ¬ ((tyAt m a).2.1 = (tyAt m c).2.1 ∧ (tyAt m a).2.2 = (tyAt m c).2.2) → Wq 309 d 39 [some (.ref 103), some (.int (nI (60 * b + a))), some (.int (nI (60 * b + c))), some (.int (0 : Int32)), some (.int (0 : Int32))] [] σ (Qi P) := fun z => by
    have hf : sameT t m a c = false := by
      cases hh : sameT t m a c with
      | false => rfl
      | true =>
        unfold sameT at hh
        rw [Bool.and_eq_true, Bool.and_eq_true, decide_eq_true_iff, decide_eq_true_iff] at hh
        exact absurd hh.1 z
    rw [hf] at hP
    have fin : fk_bz (0 : Int32) (Qi P (some (.int (0 : Int32))) σ) := bz_b false hP
    refine S_M_isSame_39 ?_
    rw [nI_clamp (n := 60 * b + a) (by omega)]
    exact ⟨vp_in_nI (by omega) (by decide), fun _ => fin, fun _ => ⟨fun _ => fin, fun y => absurd rfl y⟩⟩
  refine S_M_isSame ?_
  rw [nI_clamp (n := 60 * b + a) (by omega), nI_clamp (n := 60 * b + c) (by omega), a1, c1, a3, c3]
  refine ⟨vp_in_nI (by omega) (by decide), vp_in_nI (by omega) (by decide), And.comm.mp (pk_eq (tyAt m a).2.1 (tyAt m c).2.1 (fun h1 => ⟨vp_in_nI (by omega) (by decide), vp_in_nI (by omega) (by decide), And.comm.mp (pk_eq (tyAt m a).2.2 (tyAt m c).2.2 (fun h2 => ?_) fun h2 => no fun w => h2 w.2)⟩) fun h1 => no fun w => h1 w.1)⟩
  exact w_same39 hS ha hc h1 h2 hP (tyAt m a).2.1 0 (Nat.zero_add _) fun j hj => absurd hj (Nat.not_lt_zero j)
end BLKM
