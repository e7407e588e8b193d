/-! RUNNING, the reference: branches, blocks -/
def psT (m : Md) (s : St) : Nat := match sF s with
  | [] => 0
  | x :: _ => posOf (mdC m).2 x.2.1
theorem ex4 {b k : Nat} : ((4000 : Int32) * nI b) + nI k = nI (4000 * b + k) := by rw [show (4000 : Int32) = nI 4000 from rfl, nI_mul, nI_add]
section BRM
variable {t : Nat → UInt8} {n b N d f i j k p q tk lab : Nat} {m : Md} {σ σ' : fkS} {L L2 S S2 A : List Int64} {e e2 : Env} {fs : List Fm} {v w : Int64} {I : In} {Q : fkS → Prop} {J : JS} {bk : Bk} {P : Int32 → fkS → Prop}
/-- where a block ends -/
theorem SM.ends {o x k : Nat} {r : List (Nat × Nat)} (hS : SM t n b N m σ) (hI : (mdC m).2[k]? = some I) (h11 : iOp I = 11) (hs : sk (mdC m).2 k = (o, x) :: r) : σ.1 138 (4000 * b + posOf (mdC m).2 o) = nI I.1 ∧ σ.1 137 (4000 * b + posOf (mdC m).2 o) = eV (mdC m).2 o x := by
  obtain ⟨-, -, -, -, -, -, ⟨-, -, -, -, -, -, -, hC⟩, -⟩ := hS
  exact hC.2.1 k I o x r hI h11 hs
theorem m_branch (hS : SM t n b N m σ) (hf : okFn t n m f) (h1 : fiS (fiAt m f) ≤ i) (h2 : i ≤ fiE (fiAt m f)) (hJ : jB J = jB (jAt t m f i)) (hb : jBk J lab = some bk) (hH : brH (mdC m).2 bk S) (h : PQ t m ((f, i, L, S) :: fs, [], e, tk, 0, false) p σ) (hnl : nlb t m fs ≤ 1323) (h0 : bkO bk = none → P 0 σ)
    (hP : bkO bk ≠ none → ∀ σ', Fr sRi σ σ' → PQ t m (aBr m J lab ((f, j, L, S) :: fs, [], e, tk, 0, false)) (psT m (aBr m J lab ((f, j, L, S) :: fs, [], e, tk, 0, false))) σ' → P 1 σ') : Ci (d + 1) 303 [.ref 103, .long (lN lab), .int (nI (nlb t m fs))] σ P := by
  have eA : aBr m J lab ((f, j, L, S) :: fs, [], e, tk, 0, false) = (match bkO bk with
      | none => aLv m ((f, j, L, S) :: fs, [], e, tk, 0, false)
      | some o => ((f, (if opC (mdC m).2 o = 3 then o + 1 else endI (mdC m).2 o + 1), L, (if bCar (mdC m).2 bk = 0 then [] else S.take 1) ++ S.drop (S.length - bkF bk)) :: fs, [], e, tk, 0, false)) := by
    unfold aBr
    show (match jBk J lab with | none => _ | some b => _) = _
    rw [hb]
    rfl
  obtain ⟨kk, hk1, hk2, hk3⟩ := jIx_some hb
  rw [hJ] at hk2 hk3
  have hj22 : (jB (jAt t m f i)).length ≤ 22 := (hf.jo h1 h2).2.1
  have hb2 := hS.2.1
  have h37 := hS.2.2.1
  have hn4 := hS.1.2.2.2.2.2.1
  obtain ⟨t1, t2, t3, t4, t5⟩ := id h
  obtain ⟨-, o2, o3, o4, o5, o6⟩ := t5 rfl rfl
  have ho := h.ox
  have o5 : σ.1 103 74 = nI (((jB (jAt t m f i)).length - 1) + nlb t m fs) := o5
  -- the label's number
  have hkk : (bkO bk ≠ none → 0 < kk) ∧ (bkO bk = none → kk = 0) := by
    have hsk := hf.skj h1 h2
    have hjo : (jO (jAt t m f i))[kk]? = some (bkO bk) := by
      unfold jO
      rw [List.getElem?_map, hk2]
      rfl
    rw [hsk] at hjo
    constructor
    · intro z
      cases kk with
      | zero => exact absurd (Option.some.inj hjo).symm z
      | succ kk => exact Nat.succ_pos _
    · intro z
      cases kk with
      | zero => rfl
      | succ kk =>
        rw [z] at hjo
        unfold skO2 at hjo
        rw [List.getElem?_cons_succ, List.getElem?_map] at hjo
        obtain ⟨a, -, ha2⟩ := Option.map_eq_some_iff.mp hjo
        cases ha2
  refine S_M_branch ?_
  rw [o5, lN_i]
  rcases br_at hf h1 h2 hJ hb with ⟨c1, c2, c3⟩ | ⟨o, I, c1, c2, c3, c4, c5, c6, c7, c8, c9, c10, c11, c12⟩
  · have hk0 := hkk.2 c1
    subst hk0
    refine ⟨fun z => absurd z ?_, fun _ => h0 c1⟩
    by_cases y : nlb t m fs = 0
    · have e1 : nI ((jB (jAt t m f i)).length - 1 + nlb t m fs) - (1 : Int32) - nI lab = -1 := by
        rw [y, show (jB (jAt t m f i)).length - 1 + 0 = lab by omega, show (1 : Int32) = nI 1 from rfl]
        have : nI lab - nI 1 - nI lab = (-1 : Int32) := by
          rw [Int32.sub_eq_add_neg, Int32.sub_eq_add_neg, Int32.add_comm (nI lab), Int32.add_assoc, Int32.add_right_neg]
          rfl
        exact this
      rw [e1, y]
      decide
    · have e1 : nI ((jB (jAt t m f i)).length - 1 + nlb t m fs) - (1 : Int32) - nI lab = nI (nlb t m fs - 1) := by
        rw [show (1 : Int32) = nI 1 from rfl, nI_sub (by omega), nI_sub (by omega)]
        congr 1
        omega
      rw [e1]
      exact nI_ge (by omega) (by omega)
  · have hne : bkO bk ≠ none := by rw [c1]; simp
    have hkp := hkk.1 hne
    have hP := hP hne
    rw [eA, c1] at hP
    have e1 : nI ((jB (jAt t m f i)).length - 1 + nlb t m fs) - (1 : Int32) - nI lab = nI (nlb t m fs + (kk - 1)) := by
      rw [show (1 : Int32) = nI 1 from rfl, nI_sub (by omega), nI_sub (by omega)]
      congr 1
      omega
    obtain ⟨g1, g2⟩ := o3.1 (kk - 1) bk o (by rw [show kk - 1 + 1 = kk by omega]; exact hk2) c1
    have g1 : σ.1 152 (nlb t m fs + (kk - 1)) = nI (posOf (mdC m).2 o) := g1
    have g2 : σ.1 153 (nlb t m fs + (kk - 1)) = nI ((ol fs).length + bkF bk) := g2
    have hpo : posOf (mdC m).2 o = I.1 := posOf_get c2
    obtain ⟨y1, y2⟩ := hf.byte (i := o) c5 (by omega) c2
    obtain ⟨z1, z2, z3⟩ := hf.bty (i := o) c5 (by omega) c2 c4
    have ht0 : σ.1 105 (4000 * b + I.1) = nI (iOp I) := by
      rw [hS.tx y1, ← y2]
      rfl
    have ht1 : σ.1 105 (4000 * b + (I.1 + 1)) = nI (t (I.1 + 1)).toNat := hS.tx z1
    obtain ⟨I', d1, d2, d3, d4, d5, d6, d7, d8, d9, d10⟩ := hf.blk h1 h2 hk2 c1
    rw [c2] at d1
    cases d1
    -- the labels where it goes on
    have hsub : ∀ i2, (jB (jAt t m f i2) = jB (jAt t m f (o + 1)) ∨ jB (jAt t m f i2) = jB (jAt t m f o)) → subB t m f i i2 := fun i2 hi2 => by
      have hs0 : subB t m f i o := subB.take (by rw [d10])
      rcases hi2 with y | y
      · intro jj x oo hx hxo
        rw [y, hf.opn c5 (by omega) c2 c4] at hx
        have hx : (jB (jAt t m f o) ++ [(some o, (jT (if iOp I = 4 then (jPop 127 (jAt t m f o)).2 else jAt t m f o)).length, iB I, false)])[jj]? = some x := hx
        by_cases w1 : jj < (jB (jAt t m f o)).length
        · rw [List.getElem?_append_left w1] at hx
          exact hs0 jj x oo hx hxo
        · have hj2 := get_lt hx
          rw [List.length_append, List.length_singleton] at hj2
          have hj3 : jj = kk := by omega
          subst hj3
          rw [List.getElem?_append_right (by omega), d6, Nat.sub_self] at hx
          have hx := Option.some.inj hx
          subst hx
          have ho2 : o = oo := Option.some.inj hxo
          subst ho2
          refine ⟨bk, hk2, c1, ?_⟩
          rw [d7, hf.opn c5 (by omega) c2 c4]
          rfl
      · intro jj x oo hx hxo
        rw [y] at hx
        exact hs0 jj x oo hx hxo
    have hov : (S ++ ol fs).length ≤ 30000 := ho.2.1
    have hspl : S ++ ol fs = S.take (S.length - bkF bk) ++ (S.drop (S.length - bkF bk) ++ ol fs) := by
      rw [← List.append_assoc (S.take _), List.take_append_drop]
    have hBl : (S.drop (S.length - bkF bk) ++ ol fs).length = (ol fs).length + bkF bk := by
      rw [List.length_append, List.length_drop]
      have := hH.1
      omega
    rw [e1, nI_clamp (n := nlb t m fs + (kk - 1)) (by omega), g1, hpo, h37, ex4, nI_clamp (n := 4000 * b + I.1) (by omega), ht0]
    refine ⟨fun _ => ⟨vp_in_nI (by omega) (by decide), vp_in_nI (by omega) (by decide), ?_⟩, fun z => absurd (nI_le (by omega) (by omega)) z⟩
    -- from where the value is at hand
    have cut98 : ∀ (lp : Bool) (s0 : Int64), lp = decide (opC (mdC m).2 o = 3) → (bCar (mdC m).2 bk ≠ 0 → ∃ r, S = s0 :: r) → Wq 303 (d + 1) 98 [some (.ref 103), none, none, none, some (.int (nI (nlb t m fs + (kk - 1)))), some (.int (nI I.1)), some (.int (b2i lp)), some (.int (nI (bCar (mdC m).2 bk))), none, none] [.long s0] σ (Qi P) := fun lp s0 hlp hv => by
      have o7 : oM (sI σ 103 66 (nI ((ol fs).length + bkF bk))) (S.drop (S.length - bkF bk) ++ ol fs) := (hspl ▸ ho : oM σ _).cut (by rw [hBl]; exact sI_ss) fun _ _ => rfl
      -- from where the values stand
      have cut137 : ∀ σ2 : fkS, Fr sOm σ σ2 → oM σ2 ((if bCar (mdC m).2 bk = 0 then [] else S.take 1) ++ (S.drop (S.length - bkF bk) ++ ol fs)) → ∀ s1 : Int32, s1 = nI (if lp = true then nlb t m fs + kk else nlb t m fs + (kk - 1)) → Wq 303 (d + 1) 137 [some (.ref 103), none, none, none, none, some (.int (nI I.1)), some (.int (b2i lp)), none, none, none] [.int s1, .ref 103] σ2 (Qi P) := fun σ2 f2 o8 s1 hs1 => by
        have hp2 : PQ t m ((f, i, L, (if bCar (mdC m).2 bk = 0 then [] else S.take 1) ++ S.drop (S.length - bkF bk)) :: fs, [], e, tk, 0, false) p σ2 := by
          refine ⟨t1.fo f2, (f2 _ _ rfl).1.trans t2, (f2 _ _ rfl).1.trans t3, (f2 _ _ rfl).1.trans t4, fun _ _ => ⟨?_, ?_, ?_, (f2 _ _ rfl).1.trans o4, (f2 _ _ rfl).1.trans o5, (f2 _ _ rfl).1.trans o6⟩⟩
          · show oM σ2 ((((if bCar (mdC m).2 bk = 0 then [] else S.take 1) ++ S.drop (S.length - bkF bk)) ++ ol fs) ++ [])
            rw [List.append_nil, List.append_assoc]
            exact o8
          · have o2' : locM σ ((f, i, L, (if bCar (mdC m).2 bk = 0 then [] else S.take 1) ++ S.drop (S.length - bkF bk)) :: fs) := o2
            exact o2'.fr f2 fun _ => rfl
          · have o3' : labM t m σ ((f, i, L, (if bCar (mdC m).2 bk = 0 then [] else S.take 1) ++ S.drop (S.length - bkF bk)) :: fs) := o3
            exact o3'.fr f2 (fun _ => rfl) fun _ => rfl
        have hS2 := hS.fo f2
        have mo : ∀ {σ3 : fkS}, Fr (fun c j => Nat.beq c 103 && (Nat.beq j 40 || Nat.beq j 74)) σ2 σ3 → Fr sRi σ σ3 := fun f3 => (f2.mono fun _ _ => sOm_ri).tr (f3.mono fun c j h => by
          unfold sRi
          have h : (Nat.beq c 103 && (Nat.beq j 40 || Nat.beq j 74)) = true := h
          simp only [Bool.or_eq_true, Bool.and_eq_true, Nat.beq_eq, Nat.ble_eq] at h ⊢
          omega)
        refine S_M_branch_137 ⟨fun z => ?_, fun z => ?_⟩
        · have hz : lp = false := b2i_0.mp z
          have hop : ¬ opC (mdC m).2 o = 3 := of_decide_eq_false (hlp.symm.trans hz)
          rw [hz, if_neg (by decide)] at hs1
          have hP : ∀ σ', Fr sRi σ σ' → PQ t m ((f, (if opC (mdC m).2 o = 3 then o + 1 else endI (mdC m).2 o + 1), L, (if bCar (mdC m).2 bk = 0 then [] else S.take 1) ++ S.drop (S.length - bkF bk)) :: fs, [], e, tk, 0, false) (posOf (mdC m).2 (if opC (mdC m).2 o = 3 then o + 1 else endI (mdC m).2 o + 1)) σ' → P 1 σ' := hP
          rw [if_neg hop] at hP
          have hlt : endI (mdC m).2 o < (mdC m).2.length := Nat.lt_trans c7 hf.fF.2.1
          have hI2 : (mdC m).2[endI (mdC m).2 o]? = some (mdC m).2[endI (mdC m).2 o] := List.getElem?_eq_getElem hlt
          generalize hII2 : (mdC m).2[endI (mdC m).2 o] = I2 at hI2
          rw [opC_get hI2] at c9
          obtain ⟨⟨-, -, -, x, r4⟩, -⟩ := hf.reg c5 (by omega) c2 c4
          have he2 := (hS2.ends hI2 c9 r4).1
          rw [hpo] at he2
          have hnx := hf.nx1 c8 c7 hI2 (.inr (.inr (.inr (.inl c9))))
          rw [hS2.2.2.1, ex4, nI_clamp (n := 4000 * b + I.1) (by omega)]
          refine ⟨vp_in_nI (by omega) (by decide), ?_⟩
          show P 1 (sI (sI σ2 103 74 s1) 103 40 (σ2.1 138 (4000 * b + I.1) + 1))
          rw [he2, nI_1, hs1]
          have e0 := (hf.aft c5 (by omega) c2 c4).1
          have hj0 : jB (jAt t m f (endI (mdC m).2 o + 1)) = jB (jAt t m f o) := by rw [e0]; rfl
          refine hP _ (mo ((Fr.rf.sI rfl).sI rfl)) (hp2.mv (hsub _ (.inr hj0)) (fun _ => ?_) ((Fr.rf.sI rfl).sI rfl) (by rw [hnx]; exact sI_ss))
          show nI (nlb t m fs + (kk - 1)) = _
          rw [hj0, d6]
          congr 1
          omega
        · have hz : lp = true := by
            cases hh : lp
            · rw [hh] at z
              exact absurd rfl z
            · rfl
          have hop : opC (mdC m).2 o = 3 := of_decide_eq_true (hlp.symm.trans hz)
          rw [hz, if_pos rfl] at hs1
          have hP : ∀ σ', Fr sRi σ σ' → PQ t m ((f, (if opC (mdC m).2 o = 3 then o + 1 else endI (mdC m).2 o + 1), L, (if bCar (mdC m).2 bk = 0 then [] else S.take 1) ++ S.drop (S.length - bkF bk)) :: fs, [], e, tk, 0, false) (posOf (mdC m).2 (if opC (mdC m).2 o = 3 then o + 1 else endI (mdC m).2 o + 1)) σ' → P 1 σ' := hP
          rw [if_pos hop] at hP
          show P 1 (sI (sI σ2 103 74 s1) 103 40 (nI I.1 + nI 2))
          rw [nI_add, hs1]
          have hj0 : (jB (jAt t m f (o + 1))).length = kk + 1 := by
            rw [hf.opn c5 (by omega) c2 c4]
            show (jB (jAt t m f o) ++ [_]).length = _
            rw [List.length_append, d6]
            rfl
          refine hP _ (mo ((Fr.rf.sI rfl).sI rfl)) (hp2.mv (hsub _ (.inl rfl)) (fun _ => ?_) ((Fr.rf.sI rfl).sI rfl) (by rw [z3 (by omega)]; exact sI_ss))
          show nI (nlb t m fs + kk) = _
          rw [hj0]
          congr 1
          omega
      have hs1f : lp = false → nI (nlb t m fs + (kk - 1)) = nI (if lp = true then nlb t m fs + kk else nlb t m fs + (kk - 1)) := fun z => by rw [z, if_neg (by decide)]
      have hs1t : ¬ b2i lp = 0 → nI (nlb t m fs + (kk - 1)) + (1 : Int32) = nI (if lp = true then nlb t m fs + kk else nlb t m fs + (kk - 1)) := fun z => by
        have hz : lp = true := by
          cases hh : lp
          · rw [hh] at z
            exact absurd rfl z
          · rfl
        rw [hz, if_pos rfl, nI_1]
        congr 1
        omega
      refine S_M_branch_98 ?_
      rw [nI_clamp (n := nlb t m fs + (kk - 1)) (by omega), g2]
      refine ⟨vp_in_nI (by omega) (by decide), fun z => ?_, fun z => ?_⟩
      · have hc0 : bCar (mdC m).2 bk = 0 := (nI_eq (b := 0) (by have := hH.2.1; omega) (by decide)).mp z
        have o8 : oM (sI σ 103 66 (nI ((ol fs).length + bkF bk))) ((if bCar (mdC m).2 bk = 0 then [] else S.take 1) ++ (S.drop (S.length - bkF bk) ++ ol fs)) := by
          rw [if_pos hc0]
          exact o7
        exact ⟨fun y => cut137 _ (Fr.rf.sI rfl) o8 _ (hs1f (b2i_0.mp y)), fun y => cut137 _ (Fr.rf.sI rfl) o8 _ (hs1t y)⟩
      · have hc0 : ¬ bCar (mdC m).2 bk = 0 := fun y => z (by rw [y]; rfl)
        obtain ⟨r, hr⟩ := hv hc0
        have hb1 := hH.2.2.2 hc0
        refine m_pushes o7 (by rw [hBl]; rw [List.length_append] at hov; omega) fun σ2 f2 o8 => ?_
        have f3 : Fr sOm σ σ2 := (Fr.rf.sI rfl : Fr sOm σ _).tr f2
        have o9 : oM σ2 ((if bCar (mdC m).2 bk = 0 then [] else S.take 1) ++ (S.drop (S.length - bkF bk) ++ ol fs)) := by
          rw [if_neg hc0]
          have : S.take 1 = [s0] := by rw [hr]; rfl
          rw [this]
          exact o8
        exact ⟨fun y => cut137 σ2 f3 o9 _ (hs1f (b2i_0.mp y)), fun y => cut137 σ2 f3 o9 _ (hs1t y)⟩
    have hcar : bCar (mdC m).2 bk = if opC (mdC m).2 o = 3 ∨ iB I = 0 then 0 else 1 := by
      unfold bCar jLoop
      rw [c1, d8]
      by_cases y : opC (mdC m).2 o = 3
      · rw [if_pos (.inl (decide_eq_true y)), if_pos (.inl y)]
      · by_cases y2 : iB I = 0
        · rw [if_pos (.inr y2), if_pos (.inr y2)]
        · rw [if_neg (by rintro (w1 | w1); exact y (of_decide_eq_true w1); exact y2 w1), if_neg (by rintro (w1 | w1); exact y w1; exact y2 w1)]
    rw [c3] at hcar
    have hspv : bCar (mdC m).2 bk ≠ 0 → ∃ r, S = σ.2.1 150 (σ.1 103 66 - (1 : Int32)).toNatClampNeg :: r ∧ vp_in (σ.1 103 66 - (1 : Int32)) 140000 := fun z => by
      obtain ⟨v, r, rfl⟩ := hH.2.2.1 z
      have ho2 : oM σ (v :: (r ++ ol fs)) := ho
      obtain ⟨u1, u2, u3⟩ := ho2.sp
      rw [u1, nI_clamp (by omega), u3]
      exact ⟨r, rfl, vp_in_nI (by omega) (by decide)⟩
    have hop4 : iOp I < 5 := by omega
    refine ⟨fun z => ?_, fun z => ?_⟩
    · have z : ¬ iOp I = 3 := fun y => z (by rw [y]; rfl)
      have hlp : false = decide (opC (mdC m).2 o = 3) := (decide_eq_false (by rw [c3]; exact z)).symm
      refine S_M_branch_53 ⟨fun y => absurd rfl y, fun _ => ?_⟩
      refine S_M_blockType ?_
      rw [h37, ex4, nI_1, nI_clamp (n := 4000 * b + I.1 + 1) (by omega), Nat.add_assoc, ht1]
      refine ⟨vp_in_nI (by omega) (by decide), ?_⟩
      have ht8 := (t (I.1 + 1)).toNat_lt
      refine pk_eq (t (I.1 + 1)).toNat 64 (fun y => ?_) (fun y => ?_) (ha := by omega) (hb := by decide)
      · have hc0 : bCar (mdC m).2 bk = 0 := by rw [hcar, if_pos (.inr (z2.mp y))]
        have := cut98 false 0 hlp fun w1 => absurd hc0 w1
        rw [hc0] at this
        exact ⟨fun _ => this, fun w1 => absurd rfl w1⟩
      · have hc0 : bCar (mdC m).2 bk = 1 := by rw [hcar, if_neg (by rintro (w1 | w1); exact z w1; exact y (z2.mpr w1))]
        obtain ⟨r, hr, hin⟩ := hspv (by rw [hc0]; decide)
        have := cut98 false _ hlp fun _ => ⟨r, hr⟩
        rw [hc0] at this
        exact ⟨fun w1 => absurd w1 (by decide), fun _ => ⟨hin, this⟩⟩
    · have z : iOp I = 3 := (nI_eq (b := 3) (by omega) (by decide)).mp z
      have hlp : true = decide (opC (mdC m).2 o = 3) := (decide_eq_true (by rw [c3]; exact z)).symm
      have hc0 : bCar (mdC m).2 bk = 0 := by rw [hcar, if_pos (.inl z)]
      have := cut98 true 0 hlp fun w1 => absurd hc0 w1
      rw [hc0] at this
      exact S_M_branch_53 ⟨fun _ => ⟨fun _ => this, fun w1 => absurd rfl w1⟩, fun y => absurd y (by decide)⟩
end BRM
