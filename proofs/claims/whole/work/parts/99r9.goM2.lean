/-! RUNNING, the reference: one INSTRUCTION, all of them -/
def brP (C : List In) (bk : Bk) (S : List Int64) : Prop := brH C bk S
section GOM2
variable {t : Nat → UInt8} {n b N d f g f0 i j k p q tk lab a c nl sp r0 : Nat} {m : Md} {σ σ' σ0 : fkS} {L L2 S S2 A R : List Int64} {e e2 : Env} {fs : List Fm} {v w : Int64} {I : In} {Q : fkS → Prop} {J : JS} {bk : Bk} {P : Int32 → fkS → Prop} {QQ : Option Value → fkS → Prop}
theorem RE_t {s : St} (h : RE m N f0 s) (hne : sF s ≠ []) : sT s ≠ 0 ∨ sS s = true := by
  rcases h.1 with y | y | y
  · exact absurd y hne
  · exact .inl y
  · exact .inr y
/-- behind what is done: an end of all -/
theorem g_bad {s : St} {fs : List Fm} {σ1 : fkS} (f1 : Fr sRi σ0 σ1) (hs8 : sT (aIt t m N k s) ≤ 8) (h : RE m N f0 (aIt t m N k s)) (ht : sT (aIt t m N k s) ≠ 0 ∨ sS (aIt t m N k s) = true) (hPQ : PQ t m (aIt t m N k s) p σ1) :
    (¬ σ1.1 103 69 = 0 → gR t n N f0 m s f fs σ0 0 σ1) ∧ (σ1.1 103 69 = 0 → (¬ σ1.1 103 71 = 0 → gR t n N f0 m s f fs σ0 0 σ1) ∧ (σ1.1 103 71 = 0 → gR t n N f0 m s f fs σ0 1 σ1)) := by
  have bad : gR t n N f0 m s f fs σ0 0 σ1 := ⟨f1, .inr (.inl ⟨rfl, k, p, h, hs8, ht, hPQ⟩)⟩
  refine ⟨fun _ => bad, fun z => ⟨fun _ => bad, fun y => ?_⟩⟩
  rcases ht with w | w
  · rw [hPQ.2.2.1] at z
    exact absurd z (nI_ne0 (by omega) (by omega))
  · rw [hPQ.2.2.2.1, w] at y
    exact absurd y (by decide)
/-- on -/
theorem g_go {s : St} {fs : List Fm} {σ1 : fkS} (hk : 1 ≤ k) (f1 : Fr sRi σ0 σ1) (h : RI t n m N f0 (aIt t m N k s)) (hF : aIt t m N k s = ((f, i, L, S) :: fs, [], e, tk, 0, false)) (hPQ : PQ t m ((f, i, L, S) :: fs, [], e, tk, 0, false) (posOf (mdC m).2 i) σ1) :
    (¬ σ1.1 103 69 = 0 → gR t n N f0 m s f fs σ0 0 σ1) ∧ (σ1.1 103 69 = 0 → (¬ σ1.1 103 71 = 0 → gR t n N f0 m s f fs σ0 0 σ1) ∧ (σ1.1 103 71 = 0 → gR t n N f0 m s f fs σ0 1 σ1)) := by
  have e69 : σ1.1 103 69 = 0 := hPQ.2.2.1
  have e71 : σ1.1 103 71 = 0 := hPQ.2.2.2.1
  exact ⟨fun z => absurd e69 z, fun _ => ⟨fun z => absurd e71 z, fun _ => ⟨f1, .inl ⟨rfl, k, i, L, S, e, tk, hk, hF, h, by rw [hF]; exact hPQ⟩⟩⟩⟩
theorem RI_of (hRR : RI t n m N f0 ((f, i, L, S) :: fs, [], e, tk, 0, false) ∨ RE m N f0 ((f, i, L, S) :: fs, [], e, tk, 0, false)) : RI t n m N f0 ((f, i, L, S) :: fs, [], e, tk, 0, false) := by
  rcases hRR with y | y
  · exact y
  · rcases y.1 with u | u | u
    · cases u
    · exact absurd rfl u
    · cases u
theorem RE_of {tr : Nat} (ht : tr ≠ 0) (hRR : RI t n m N f0 ((f, i, L, S) :: fs, [], e, tk, tr, false) ∨ RE m N f0 ((f, i, L, S) :: fs, [], e, tk, tr, false)) : RE m N f0 ((f, i, L, S) :: fs, [], e, tk, tr, false) := by
  rcases hRR with y | y
  · exact absurd y.2.2.2.2.2.2.2.1 ht
  · exact y
theorem PQ.ix {q : Nat} (h : PQ t m ((f, i, L, S) :: fs, [], e, tk, 0, false) q σ) (hj : jB (jAt t m f j) = jB (jAt t m f i)) : PQ t m ((f, j, L, S) :: fs, [], e, tk, 0, false) q σ := h.mv (subB.eq hj) (fun y => by rw [hj]; exact y) Fr.rf h.at
theorem PQ.tr {tr : Nat} (h : PQ t m ((f, i, L, S) :: fs, [], e, tk, tr, false) q σ) (ht : tr ≠ 0) : PQ t m ((f, j, L2, S2) :: fs, [], e, tk, tr, false) q σ := ⟨h.1, h.2.1, h.2.2.1, h.2.2.2.1, fun z => absurd z ht⟩
theorem aLv_ix : aLv m ((f, i, L, S) :: fs, [], e, tk, 0, false) = aLv m ((f, j, L, S) :: fs, [], e, tk, 0, false) := by
  cases fs <;> rfl
theorem RE_of2 {s : St} (h : RE m N f0 s) (hne : sF s ≠ []) : sT s ≠ 0 ∨ sS s = true := RE_t h hne
theorem goes_ok (hN : N ≤ 20000) (hG : ∀ s, RI t n m N f0 s → mu t m N s ≤ r0 → Gc t n b N f0 m s) {s : St} (hR : RI t n m N f0 s) (hmu : mu t m N s ≤ r0 + 1) : Gc t n b N f0 m s := by
  intro f i L S fs e tk hs d0 σ hd hS hP
  subst hs
  obtain ⟨d, rfl⟩ : ∃ d, d0 = d + 8 := ⟨d0 - 8, by omega⟩
  obtain ⟨f', i', L', S', fs', e', tk', heq, b1, b2, b3, b4, b5, b6, he, htk⟩ := RI_st hR
  obtain ⟨rfl, rfl, rfl, rfl, rfl, rfl, rfl⟩ : f = f' ∧ i = i' ∧ L = L' ∧ S = S' ∧ fs = fs' ∧ e = e' ∧ tk = tk' := by
    have h1 := (Prod.mk.inj heq).1
    have h2 := (Prod.mk.inj (Prod.mk.inj heq).2).2
    have h3 := (Prod.mk.inj h2).1
    have h4 := (Prod.mk.inj (Prod.mk.inj h2).2).1
    have h5 := (List.cons.inj h1).1
    have h6 := (List.cons.inj h1).2
    have h7 := (Prod.mk.inj h5).2
    exact ⟨(Prod.mk.inj h5).1, (Prod.mk.inj h7).1, (Prod.mk.inj (Prod.mk.inj h7).2).1, (Prod.mk.inj (Prod.mk.inj h7).2).2, h6, h3, h4⟩
  clear heq
  have hR0 := hR
  obtain ⟨a1, a2, a3, a4, a5, -⟩ := hR
  have a5 : fs.length + 1 ≤ 64 := a5
  have hlen : (fl ((f, i, L, S) :: fs)).length ≤ 23208 := hOk.le a3 a5 (by show tk ≤ 20000; omega)
  have hol : (S ++ ol fs).length ≤ 23208 := Nat.le_trans (ol_fl ((f, i, L, S) :: fs)) hlen
  have hnl : nlb t m fs ≤ 1323 := by
    have := fsOk.nle a2.2
    omega
  have hfN : fsN fs := fsOk.fsN a2.2
  have hfN2 : fsN ((f, i, L, S) :: fs) := fsOk.fsN a2
  have hL110 : L.length ≤ 110 := hfN2 _ List.mem_cons_self
  obtain ⟨I, hI, hfI⟩ := b1.ins b3
  have eS := aS_eq (t := t) (m := m) (N := N) (f := f) (tk := tk) (L := L) (S := S) (e := e) (fs := fs) hI
  have hj1 := b4.2.2.1
  have hj22 : (jB (jAt t m f i)).length ≤ 22 := b4.1.2.1
  have hsk := (b1.skj b2 b3).len
  have hb2 := hS.2.1
  have hn4 := hS.1.2.2.2.2.2.1
  obtain ⟨y1, y2⟩ := b1.byte b2 b3 hI
  have hpo : posOf (mdC m).2 i = I.1 := posOf_get hI
  rw [hpo] at hP
  have h40 := hP.at
  have h105 : σ.1 105 (4000 * b + I.1) = nI (iOp I) := by
    rw [hS.tx y1, ← y2]
    rfl
  have hop : iOp I < 256 := by
    have := (t I.1).toNat_lt
    omega
  have ne : ∀ {c : Nat}, iOp I ≠ c → c < 256 → ¬ nI (iOp I) = nI c := fun a b z => a ((nI_eq (by omega) (by omega)).mp z)
  obtain ⟨t1, t2, t3, t4, t5⟩ := id hP
  obtain ⟨-, o2, o3, o4, o5, o6⟩ := t5 rfl rfl
  have t2 : σ.1 103 68 = nI tk := t2
  have o5 : σ.1 103 74 = nI (((jB (jAt t m f i)).length - 1) + nlb t m fs) := o5
  have h67 := hS.2.2.2.2.2.2.2.2.2
  have eit1 : aIt t m N 1 ((f, i, L, S) :: fs, [], e, tk, 0, false) = aS t m N ((f, i, L, S) :: fs, [], e, tk, 0, false) := rfl
  have f40 : Fr s40 σ (sI σ 103 40 (nI (I.1 + 1))) := Fr.rf.sI rfl
  have hRR := step_RI hR0
  refine S_M_goesOn ?_
  rw [hS.2.2.1, h40, ex4, nI_clamp (n := 4000 * b + I.1) (by omega), h105, nI_1]
  refine ⟨vp_in_nI (by omega) (by decide), fun z11 => ?_, fun z11 => ?_⟩
  case refine_2 =>
    have h11 : iOp I = 11 := (nI_eq (b := 11) (by omega) (by decide)).mp z11
    rw [if_pos h11] at eS
    rw [o5]
    cases hs : sk (mdC m).2 i with
    | nil =>
      rw [hs] at hsk
      have hsk : (jB (jAt t m f i)).length = 1 := hsk
      rw [hs, if_pos rfl] at eS
      refine ⟨fun z => absurd (by rw [hsk]; congr 1; omega) z, fun _ => ?_⟩
      have hv : gvF m f ≠ 0 → ∃ v r, S = v :: r := by
        have hp : jG (jPart (jAt t m f i)) = true := by
          have hg := b1.goodAt (i := i + 1) (by omega) (by omega)
          have e := b1.succ b2 b3 hI
          rw [jI_11 h11] at e
          obtain ⟨b, c1, c2, c3, c4, c5⟩ := blk_of (bad := eBad (mdC m).2 (jAt t m f i)) b4.1 b4.2.2.1
          rw [e, c5, jG_pushG] at hg
          have hg2 : (jG (jPart (jAt t m f i)) && !(eBad (mdC m).2 (jAt t m f i) && decide (bkG b ≠ 0))) = true := hg
          rw [Bool.and_eq_true] at hg2
          exact hg2.1
        obtain ⟨bt, t1, t2, t3, t4⟩ := b4.top
        obtain ⟨k, hk, hb⟩ := top_get t1
        have hk0 : k = 0 := by omega
        subst hk0
        obtain ⟨v, hv⟩ := b1.fb b2 b3
        rw [hb] at hv
        have hv := Option.some.inj hv
        have hT := part_lv b4 t1 hp
        rw [hv] at hT
        have hT : jT (jAt t m f i) = (jT (jAt t m f i)).take 0 ++ gvL (gvF m f) := hT
        rw [hT] at b6
        exact (ty_gv b6).2
      exact ⟨f40.mono fun _ _ => s40_ri, .inr (.inr ⟨rfl, 1, i, L, S, e, tk, I.1 + 1, by rw [eit1, eS], hP.to f40 sI_ss, hv, by rw [eit1]; exact hRR⟩)⟩
    | cons a r =>
      obtain ⟨o, x⟩ := a
      rw [hs] at hsk
      have hsk : (jB (jAt t m f i)).length = r.length + 1 + 1 := hsk
      rw [hs, if_neg (by simp)] at eS
      obtain ⟨c1, c2, c3, c4, c5⟩ := b1.end11 b2 b3 hI b4 h11 hs
      refine ⟨fun _ => ?_, fun z => absurd ((nI_eq (by omega) (by omega)).mp z) (by omega)⟩
      have e1 : nI ((jB (jAt t m f i)).length - 1 + nlb t m fs) - (1 : Int32) = nI (((jB (jAt t m f (i + 1))).length - 1) + nlb t m fs) := by
        rw [show (1 : Int32) = nI 1 from rfl, nI_sub (by omega), c5, List.length_take]
        congr 1
        omega
      have ej : (sI σ 103 40 (nI (I.1 + 1))).1 103 74 = nI ((jB (jAt t m f i)).length - 1 + nlb t m fs) := o5
      rw [e1]
      have hRI : RI t n m N f0 (aIt t m N 1 ((f, i, L, S) :: fs, [], e, tk, 0, false)) := by
        rw [eit1]
        rcases hRR with y | y
        · exact y
        · rw [eS] at y
          rcases y.1 with u | u | u
          · cases u
          · exact absurd rfl u
          · cases u
      refine ⟨((Fr.rf.sI rfl).sI rfl), .inl ⟨rfl, 1, i + 1, L, S, e, tk, Nat.le_refl _, by rw [eit1, eS], hRI, ?_⟩⟩
      rw [eit1, eS]
      have hnx := b1.nx1 b2 c1 hI (.inr (.inr (.inr (.inl h11))))
      exact hP.mv (subB.take c5) (fun _ => sI_ss) ((Fr.rf.sI rfl).sI rfl) (by rw [hnx]; rfl)
  case refine_1 =>
    have h11 : iOp I ≠ 11 := fun y => z11 (by rw [y]; rfl)
    rw [if_neg h11] at eS
    refine ⟨fun z5 => ?_, fun z5 => ?_⟩
    case refine_2 =>
      have h5 : iOp I = 5 := (nI_eq (b := 5) (by omega) (by decide)).mp z5
      rw [if_pos h5] at eS
      obtain ⟨o, r, c1, c2, c3, c4, c5, c6, c7, c8, x, c9⟩ := b1.end5 b2 b3 hI b4 h5
      rw [c1] at hsk
      have hsk : (jB (jAt t m f i)).length = r.length + 1 + 1 := hsk
      have e1 : nI ((jB (jAt t m f i)).length - 1 + nlb t m fs) - (1 : Int32) = nI (nlb t m fs + r.length) := by
        rw [show (1 : Int32) = nI 1 from rfl, nI_sub (by omega)]
        congr 1
        omega
      have hjo : (jO (jAt t m f i))[r.length + 1]? = some (some o) := by
        rw [show jO (jAt t m f i) = skO2 (sk (mdC m).2 i) from b1.skj b2 b3, c1]
        unfold skO2
        rw [List.getElem?_cons_succ, List.getElem?_map, List.reverse_cons, List.getElem?_append_right (by rw [List.length_reverse]; exact Nat.le_refl _), List.length_reverse, Nat.sub_self]
        rfl
      unfold jO at hjo
      rw [List.getElem?_map] at hjo
      obtain ⟨bk, hbk, hbo⟩ := Option.map_eq_some_iff.mp hjo
      obtain ⟨g1, -⟩ := o3.1 r.length bk o hbk hbo
      have g1 : σ.1 152 (nlb t m fs + r.length) = nI (posOf (mdC m).2 o) := g1
      have hI2lt : nx (mdC m).2 i < (mdC m).2.length := Nat.lt_trans c4 b1.fF.2.1
      have hI2 : (mdC m).2[nx (mdC m).2 i]? = some (mdC m).2[nx (mdC m).2 i] := List.getElem?_eq_getElem hI2lt
      generalize hII2 : (mdC m).2[nx (mdC m).2 i] = I2 at hI2
      rw [opC_get hI2] at c8
      have hend := (hS.ends hI2 c8 c9).1
      have hpo4 : posOf (mdC m).2 o < 4000 := by
        obtain ⟨Io, d1, d2, d3, d4, -⟩ := b1.blk b2 b3 hbk hbo
        rw [posOf_get d1]
        have := (b1.byte (i := o) d3 (by omega) d1).1
        omega
      have hnx := b1.nx1 (by omega) c4 hI2 (.inr (.inr (.inr (.inl c8))))
      rw [o5, e1, nI_clamp (n := nlb t m fs + r.length) (by omega), g1, ex4, nI_clamp (n := 4000 * b + posOf (mdC m).2 o) (by omega), hend, nI_1, ← hnx]
      refine ⟨vp_in_nI (by omega) (by decide), vp_in_nI (by omega) (by decide), ?_⟩
      have hRI : RI t n m N f0 (aIt t m N 1 ((f, i, L, S) :: fs, [], e, tk, 0, false)) := by
        rw [eit1]
        rcases hRR with y | y
        · exact y
        · rw [eS] at y
          rcases y.1 with u | u | u
          · cases u
          · exact absurd rfl u
          · cases u
      refine ⟨(((Fr.rf.sI rfl).sI rfl).sI rfl), .inl ⟨rfl, 1, nx (mdC m).2 i + 1, L, S, e, tk, Nat.le_refl _, by rw [eit1, eS], hRI, ?_⟩⟩
      rw [eit1, eS]
      refine hP.mv (subB.take c7) (fun _ => ?_) (((Fr.rf.sI rfl).sI rfl).sI rfl) sI_ss
      show nI (nlb t m fs + r.length) = _
      rw [c7, List.length_take]
      congr 1
      omega
    case refine_1 =>
      have h5 : iOp I ≠ 5 := fun y => z5 (by rw [y]; rfl)
      rw [if_neg h5] at eS
      rw [t2, h67]
      refine And.comm.mp (pk_eq tk N (fun zN => ?_) fun zN => ?_)
      · rw [if_pos zN] at eS
        have hRE : RE m N f0 (aIt t m N 1 ((f, i, L, S) :: fs, [], e, tk, 0, false)) := by
          rw [eit1]
          rcases hRR with y | y
          · rw [eS] at y
            exact absurd y.2.2.2.2.2.2.2.2.1 (show ¬ (true = false) by decide)
          · exact y
        refine ⟨((Fr.rf.sI rfl).sI rfl), .inr (.inl ⟨rfl, 1, 0, hRE, by rw [eit1, eS]; exact Nat.zero_le 8, by rw [eit1, eS]; exact .inr rfl, ?_⟩)⟩
        rw [eit1, eS]
        exact ⟨t1.fr (S := fun c j => Nat.beq c 103 && (Nat.beq j 40 || Nat.beq j 71)) ((Fr.rf.sI rfl).sI rfl) (fun _ => rfl) (fun _ => rfl) rfl, t2, t3, sI_ss, fun _ w => by cases w⟩
      rw [if_neg zN] at eS
      rw [nI_1]
      have hlt := b1.ltE b2 b3 hI (fun w => h11 w.1)
      -- the STEP is counted
      have fC : Fr sRi σ (sI (sI σ 103 40 (nI (I.1 + 1))) 103 68 (nI (tk + 1))) := (Fr.rf.sI rfl).sI rfl
      have hSc := hS.fr fC
      have hPc : PQ t m ((f, i, L, S) :: fs, [], e, tk + 1, 0, false) (I.1 + 1) (sI (sI σ 103 40 (nI (I.1 + 1))) 103 68 (nI (tk + 1))) := by
        have fz : Fr (fun c j => Nat.beq c 103 && (Nat.beq j 40 || Nat.beq j 68)) σ (sI (sI σ 103 40 (nI (I.1 + 1))) 103 68 (nI (tk + 1))) := (Fr.rf.sI rfl).sI rfl
        exact ⟨t1.fr fz (fun _ => rfl) (fun _ => rfl) rfl, sI_ss, t3, t4, fun _ _ => ⟨hP.ox.fr fz rfl (fun _ => rfl) |> fun o => (by
          show oM _ ((S ++ ol fs) ++ [])
          rw [List.append_nil]
          exact o), o2.fr fz fun _ => rfl, o3.fr fz (fun _ => rfl) fun _ => rfl, o4, o5, rfl⟩⟩
      generalize sI (sI σ 103 40 (nI (I.1 + 1))) 103 68 (nI (tk + 1)) = σc at fC hSc hPc ⊢
      obtain ⟨q, u1, u2⟩ := b1.nxp b2 b3 hI
      have u2 := u2 hlt
      obtain ⟨hops, hlg⟩ := pI_ops u1
      have hpl := pI_l u1
      have hA8 : sT (aIt t m N 1 ((f, i, L, S) :: fs, [], e, tk, 0, false)) ≤ 8 := by
        rw [eit1]
        exact aS_t (Nat.zero_le _)
      have eX := aX_eq (t := t) (m := m) (J := jAt t m f i) (i := i) (I := I) (f := f) (j := i + 1) (L := L) (S := S) (fs := fs) (e := e) (tk := tk + 1)
      -- what a branch comes to
      have brk : ∀ {J1 : JS} {lab : Nat} {bk : Bk} {S1 : List Int64} {σ9 : fkS}, jB J1 = jB (jAt t m f i) → jBk J1 lab = some bk → brH (mdC m).2 bk S1 → aX t m (jAt t m f i) i I ((f, i + 1, L, S) :: fs, [], e, tk + 1, 0, false) = aBr m J1 lab ((f, i + 1, L, S1) :: fs, [], e, tk + 1, 0, false) → Fr sRi σ σ9 → jmpP t m f i L S1 fs e (tk + 1) (i + 1) lab J1 bk (fun r σ' => (r = 0 ∨ r = 1) ∧ gR t n N f0 m ((f, i, L, S) :: fs, [], e, tk, 0, false) f fs σ r σ') σ9 := fun {J1 lab bk S1 σ9} hJ hb hH ea f9 => by
        rw [ea] at eS
        have eA : aBr m J1 lab ((f, i + 1, L, S1) :: fs, [], e, tk + 1, 0, false) = (match bkO bk with
            | none => aLv m ((f, i + 1, L, S1) :: fs, [], e, tk + 1, 0, false)
            | some o => ((f, (if opC (mdC m).2 o = 3 then o + 1 else endI (mdC m).2 o + 1), L, (if bCar (mdC m).2 bk = 0 then [] else S1.take 1) ++ S1.drop (S1.length - bkF bk)) :: fs, [], e, tk + 1, 0, false)) := by
          unfold aBr
          show (match jBk J1 lab with | none => _ | some b => _) = _
          rw [hb]
          rfl
        refine ⟨fun hn σ' q' f' hq => ⟨.inl rfl, f9.tr f', .inr (.inr ⟨rfl, 1, i, L, S1, e, tk + 1, q', ?_, hq, ?_, by rw [eit1]; exact hRR⟩)⟩, fun hn σ' f' hq => ⟨.inr rfl, f9.tr f', .inl ?_⟩⟩
        · rw [eit1, eS, eA, hn]
          exact aLv_ix
        · intro hgv
          refine hH.2.2.1 fun hz => hgv ?_
          rcases br_at b1 b2 b3 hJ hb with ⟨c1, c2, c3⟩ | ⟨o, Io, c1, -⟩
          · unfold bCar jLoop at hz
            rw [c1, c3] at hz
            by_cases z : gvF m f = 0
            · exact z
            · rw [if_neg (by rintro (w | w); cases w; exact z w)] at hz
              cases hz
          · rw [hn] at c1
            cases c1
        · cases hbo : bkO bk with
          | none => exact absurd hbo hn
          | some o =>
            rw [hbo] at eA
            have eA : aBr m J1 lab ((f, i + 1, L, S1) :: fs, [], e, tk + 1, 0, false) = ((f, (if opC (mdC m).2 o = 3 then o + 1 else endI (mdC m).2 o + 1), L, (if bCar (mdC m).2 bk = 0 then [] else S1.take 1) ++ S1.drop (S1.length - bkF bk)) :: fs, [], e, tk + 1, 0, false) := eA
            rw [eA] at eS hq
            rw [eS] at hRR
            refine ⟨rfl, 1, _, _, _, _, _, Nat.le_refl _, by rw [eit1, eS], ?_, ?_⟩
            · rw [eit1, eS]
              exact RI_of hRR
            · rw [eit1, eS]
              exact hq
      have bzr : ∀ {r : Int32} {σ1 : fkS}, (r = 0 ∨ r = 1) ∧ gR t n N f0 m ((f, i, L, S) :: fs, [], e, tk, 0, false) f fs σ r σ1 → fk_bz r (Qi (gR t n N f0 m ((f, i, L, S) :: fs, [], e, tk, 0, false) f fs σ) (some (.int r)) σ1) := fun {r σ1} h => by
        rcases h with ⟨rfl | rfl, h⟩
        · exact bz_b false h
        · exact bz_b true h
      have jump : (12 ≤ iOp I ∧ iOp I ≤ 15) → Ci (d + 7) 301 [.ref 103, .int (nI (iOp I)), .int (nI (nlb t m fs))] σc (fun r σ' => (r = 0 ∨ r = 1) ∧ gR t n N f0 m ((f, i, L, S) :: fs, [], e, tk, 0, false) f fs σ r σ') := fun hj => by
        rw [if_neg (by omega), if_neg (by omega), if_neg (by omega)] at eX
        have hbr : ∀ {J1 : JS} {T : List Nat} {due : Nat} {b : Bk} {S1 : List Int64}, jT J1 = T ++ gvL due → tyd S1 (jT J1) → bkF b ≤ T.length → bNeed (mdC m).2 b = due → brH (mdC m).2 b S1 := fun {J1 T due b S1} hT hS hF hd => by
          rw [hT] at hS
          obtain ⟨c1, c2, c3, c4, c5⟩ := car_ty (b := b) hS hd hF
          refine ⟨c5, c4, c2, fun z => ?_⟩
          have h7 := hS.len
          rw [List.length_append] at h7
          have hd1 : (gvL due).length = 1 := by
            unfold gvL
            rw [if_neg fun w => z (c3.mpr w)]
            rfl
          omega
        by_cases c12 : iOp I = 12
        · rw [if_pos c12] at eX
          obtain ⟨J1, T, due, d1, d2, d3, d4, d5, d6, d7, d8, d9, d10⟩ := br_lv b1 b2 b3 hI b4 (.inl c12)
          have hJ : J1 = jAt t m f i := by rw [d1, c12]; rfl
          obtain ⟨lab, hU, hL1⟩ := hops.1 (.inl c12)
          obtain ⟨bk, e1, e2'⟩ := d8 lab (by rw [hL1]; exact List.mem_singleton.mpr rfl)
          have hbm : bk ∈ jB J1 := by
            obtain ⟨k, -, hk, -⟩ := jIx_some e1
            exact List.mem_of_getElem? hk
          rw [hL1] at eX
          subst hJ
          have hH := hbr d5 b6 (d7 bk hbm) e2'
          rw [c12]
          exact m_j12 (d := d + 5) hSc b1 b2 b3 rfl e1 hH hPc hnl hU (brk rfl e1 hH eX fC)
        rw [if_neg c12] at eX
        by_cases c13 : iOp I = 13
        · rw [if_pos c13] at eX
          obtain ⟨J1, T, due, d1, d2, d3, d4, d5, d6, d7, d8, d9, d10⟩ := br_lv b1 b2 b3 hI b4 (.inr (.inl c13))
          have hJ : J1 = (jPop 127 (jAt t m f i)).2 := by rw [d1, c13]; rfl
          obtain ⟨lab, hU, hL1⟩ := hops.1 (.inr c13)
          obtain ⟨bk, e1, e2'⟩ := d8 lab (by rw [hL1]; exact List.mem_singleton.mpr rfl)
          have hbm : bk ∈ jB J1 := by
            obtain ⟨k, -, hk, -⟩ := jIx_some e1
            exact List.mem_of_getElem? hk
          rw [d4 (by omega)] at b6
          obtain ⟨c, r, rfl, hc, hr⟩ := b6.un
          rw [hL1, ← hJ] at eX
          have eX : _ = (if c.toInt32 = 0 then ((f, i + 1, L, r) :: fs, [], e, tk + 1, 0, false) else aBr m J1 lab ((f, i + 1, L, r) :: fs, [], e, tk + 1, 0, false)) := eX
          have hH := hbr d5 hr (d7 bk hbm) e2'
          rw [c13]
          refine m_j13 (d := d + 5) (j := i + 1) hSc b1 b2 b3 d3 e1 hH hPc hnl hU (fun z σ' f' hq => ⟨.inr rfl, fC.tr f', .inl ⟨rfl, 1, i + 1, L, r, e, tk + 1, Nat.le_refl _, ?_, ?_, ?_⟩⟩) fun z => ?_
          · rw [if_pos z] at eX
            rw [eit1, eS, eX]
          · rw [if_pos z] at eX
            rw [eX] at eS
            rw [eS] at hRR
            rw [eit1, eS]
            exact RI_of hRR
          · rw [if_pos z] at eX
            rw [eit1, eS, eX, u2]
            exact hq.ix (by rw [d10 c13, d3])
          · rw [if_neg z] at eX
            exact brk d3 e1 hH eX fC
        rw [if_neg c13] at eX
        by_cases c14 : iOp I = 14
        · rw [if_pos c14] at eX
          obtain ⟨J1, T, due, d1, d2, d3, d4, d5, d6, d7, d8, d9, d10⟩ := br_lv b1 b2 b3 hI b4 (.inr (.inr c14))
          have hJ : J1 = (jPop 127 (jAt t m f i)).2 := by rw [d1, c14]; rfl
          obtain ⟨q1, hV, hF⟩ := hops.2.2.2.2.2.2.1 c14
          rw [d4 (by omega)] at b6
          obtain ⟨c, r, rfl, hc, hr⟩ := b6.un
          have hlen := hfI.2.2.2.1 c14
          have hlt2 : min (lo32 c) (iS I) < (iL I).length := by omega
          have hg : (iL I)[min (lo32 c) (iS I)]? = some (iL I)[min (lo32 c) (iS I)] := List.getElem?_eq_getElem hlt2
          obtain ⟨bk, e1, e2'⟩ := d8 _ (List.getElem_mem hlt2)
          have hbm : bk ∈ jB J1 := by
            obtain ⟨k, -, hk, -⟩ := jIx_some e1
            exact List.mem_of_getElem? hk
          rw [← hJ] at eX
          have eX : _ = aBr m J1 (((iL I)[min (lo32 c) (iS I)]?).getD 0) ((f, i + 1, L, r) :: fs, [], e, tk + 1, 0, false) := eX
          rw [hg] at eX
          have hH := hbr d5 hr (d7 bk hbm) e2'
          rw [c14]
          refine m_j14 (d := d + 4) hSc b1 b2 b3 d3 e1 hH hPc ?_ hnl hV hfI.2.2.2.2.1 hF hg hlen (brk d3 e1 hH eX fC)
          have := hpl.2.2.1
          have := hpl.2.2.2.1
          omega
        rw [if_neg c14] at eX
        have c15 : iOp I = 15 := by omega
        rw [if_pos c15] at eX
        obtain ⟨T, hT⟩ := ret_lv b1 b2 b3 hI b4 c15
        rw [hT] at b6
        rw [c15]
        refine m_j15 ⟨.inl rfl, fC, .inr (.inr ⟨rfl, 1, i, L, S, e, tk + 1, I.1 + 1, ?_, hPc, (ty_gv b6).2, by rw [eit1]; exact hRR⟩)⟩
        rw [eit1, eS, eX]
        exact aLv_ix
      -- what is done by others
      have oth : ¬ (12 ≤ iOp I ∧ iOp I ≤ 15) → Wq 300 (d + 8) 158 [some (.ref 103), some (.int (nI (110 * fs.length))), none, some (.int (nI I.1)), some (.int (nI (iOp I)))] [] σc (Qi (gR t n N f0 m ((f, i, L, S) :: fs, [], e, tk, 0, false) f fs σ)) := fun hj => by
        have does : Cv (d + 7) 307 [.ref 103, .int (nI (iOp I)), .int (nI (110 * fs.length))] σc (fun σ1 => (¬ σ1.1 103 69 = 0 → gR t n N f0 m ((f, i, L, S) :: fs, [], e, tk, 0, false) f fs σ 0 σ1) ∧ (σ1.1 103 69 = 0 → (¬ σ1.1 103 71 = 0 → gR t n N f0 m ((f, i, L, S) :: fs, [], e, tk, 0, false) f fs σ 0 σ1) ∧ (σ1.1 103 71 = 0 → gR t n N f0 m ((f, i, L, S) :: fs, [], e, tk, 0, false) f fs σ 1 σ1))) → Wq 300 (d + 8) 180 [some (.ref 103), some (.int (nI (110 * fs.length))), none, none, some (.int (nI (iOp I)))] [] σc (Qi (gR t n N f0 m ((f, i, L, S) :: fs, [], e, tk, 0, false) f fs σ)) := fun h => S_M_goesOn_180 h
        -- a TRAP
        have trp : ∀ {tr p : Nat} {σ1 : fkS} {S1 : List Int64}, tr ≠ 0 → tr ≤ 8 → aX t m (jAt t m f i) i I ((f, i + 1, L, S) :: fs, [], e, tk + 1, 0, false) = ((f, i + 1, L, S) :: fs, [], e, tk + 1, tr, false) → Fr sRi σ σ1 → PQ t m ((f, i, L, S1) :: fs, [], e, tk + 1, 0, false) p σ1 → True → (¬ (sI σ1 103 69 (nI tr)).1 103 69 = 0 → gR t n N f0 m ((f, i, L, S) :: fs, [], e, tk, 0, false) f fs σ 0 (sI σ1 103 69 (nI tr))) ∧ ((sI σ1 103 69 (nI tr)).1 103 69 = 0 → (¬ (sI σ1 103 69 (nI tr)).1 103 71 = 0 → gR t n N f0 m ((f, i, L, S) :: fs, [], e, tk, 0, false) f fs σ 0 (sI σ1 103 69 (nI tr))) ∧ ((sI σ1 103 69 (nI tr)).1 103 71 = 0 → gR t n N f0 m ((f, i, L, S) :: fs, [], e, tk, 0, false) f fs σ 1 (sI σ1 103 69 (nI tr)))) := fun {tr p σ1 S1} ht h8 ea f1 hq _ => by
          obtain ⟨w1, w2, w3, w4, -⟩ := hq
          rw [ea] at eS
          rw [eS] at hRR
          have hPQ : PQ t m ((f, i + 1, L, S) :: fs, [], e, tk + 1, tr, false) 0 (sI σ1 103 69 (nI tr)) := ⟨w1.fr (S := fun c j => Nat.beq c 103 && Nat.beq j 69) (Fr.rf.sI rfl) (fun _ => rfl) (fun _ => rfl) rfl, w2, sI_ss, w4, fun z => absurd z ht⟩
          exact g_bad (k := 1) (p := 0) (f1.sI rfl) hA8 (by rw [eit1, eS]; exact RE_of ht hRR) (by rw [eit1, eS]; exact .inl ht) (by rw [eit1, eS]; exact hPQ)
        -- a CALL
        have ret : ∀ {g : Nat} {S1 : List Int64} {σ9 σ1 : fkS}, aX t m (jAt t m f i) i I ((f, i + 1, L, S) :: fs, [], e, tk + 1, 0, false) = aEn m g ((f, i + 1, L, S1) :: fs, [], e, tk + 1, 0, false) → Fr sRi σ σ9 → eR t n N f0 g m (aEn m g ((f, i + 1, L, S1) :: fs, [], e, tk + 1, 0, false)) (fsD m g ((f, i + 1, L, S1) :: fs)) q σ9 σ1 → (¬ σ1.1 103 69 = 0 → gR t n N f0 m ((f, i, L, S) :: fs, [], e, tk, 0, false) f fs σ 0 σ1) ∧ (σ1.1 103 69 = 0 → (¬ σ1.1 103 71 = 0 → gR t n N f0 m ((f, i, L, S) :: fs, [], e, tk, 0, false) f fs σ 0 σ1) ∧ (σ1.1 103 71 = 0 → gR t n N f0 m ((f, i, L, S) :: fs, [], e, tk, 0, false) f fs σ 1 σ1)) := fun {g S1 σ9 σ1} ea f9 h => by
          obtain ⟨f1, hcase⟩ := h
          rw [ea] at eS
          have eqk : ∀ k, aIt t m N (1 + k) ((f, i, L, S) :: fs, [], e, tk, 0, false) = aIt t m N k (aEn m g ((f, i + 1, L, S1) :: fs, [], e, tk + 1, 0, false)) := fun k => by rw [aIt_add, eit1, eS]
          rcases hcase with ⟨k, p', hRE, ht8, hx, hPQ⟩ | ⟨k, i', L', S', e', tk', hst, hv, hRR', hPQ⟩
          · exact g_bad (k := 1 + k) (p := p') (f9.tr f1) (by rw [eqk]; exact ht8) (by rw [eqk]; exact hRE) (by rw [eqk]; exact hx) (by rw [eqk]; exact hPQ)
          · have hst2 : aIt t m N k (aEn m g ((f, i + 1, L, S1) :: fs, [], e, tk + 1, 0, false)) = ((f, i + 1, L, (if gvF m g = 0 then [] else S'.take 1) ++ S1.drop (agN m g)) :: fs, [], e', tk', 0, false) := hst
            rw [hst2] at hRR' hPQ
            have hRI := RI_of hRR'
            exact g_go (k := 1 + k) (by omega) (f9.tr f1) (by rw [eqk, hst2]; exact hRI) (by rw [eqk, hst2]) (by rw [u2]; exact hPQ)
        have ent : ∀ {g : Nat} {S1 : List Int64} {σ9 : fkS} {d' : Nat}, 6 * (64 - (fs.length + 1)) + 14 ≤ d' → aX t m (jAt t m f i) i I ((f, i + 1, L, S) :: fs, [], e, tk + 1, 0, false) = aEn m g ((f, i + 1, L, S1) :: fs, [], e, tk + 1, 0, false) → okFn t n m g → agN m g ≤ S1.length → jB (jAt t m f (i + 1)) = jB (jAt t m f i) → Fr sRi σ σ9 → PQ t m ((f, i, L, S1) :: fs, [], e, tk + 1, 0, false) q σ9 → Cv d' 298 [.ref 103, .int (nI g)] σ9 (fun σ1 => (¬ σ1.1 103 69 = 0 → gR t n N f0 m ((f, i, L, S) :: fs, [], e, tk, 0, false) f fs σ 0 σ1) ∧ (σ1.1 103 69 = 0 → (¬ σ1.1 103 71 = 0 → gR t n N f0 m ((f, i, L, S) :: fs, [], e, tk, 0, false) f fs σ 0 σ1) ∧ (σ1.1 103 71 = 0 → gR t n N f0 m ((f, i, L, S) :: fs, [], e, tk, 0, false) f fs σ 1 σ1))) := fun {g S1 σ9 d'} hd' ea hg hA hj9 f9 hq => by
          have hRR2 := hRR
          rw [eS, ea] at hRR2
          have hmu2 : RI t n m N f0 (aEn m g ((f, i + 1, L, S1) :: fs, [], e, tk + 1, 0, false)) → mu t m N (aEn m g ((f, i + 1, L, S1) :: fs, [], e, tk + 1, 0, false)) ≤ r0 := fun h => by
            have h1 := mu_dec hR0 (by rw [eS, ea]; exact h)
            rw [eS, ea] at h1
            omega
          have hfN3 : fsN ((f, i + 1, L, S1) :: fs) := fun x hx => by
            rcases List.mem_cons.mp hx with z | z
            · rw [z]
              exact hL110
            · exact hfN x z
          refine (m_enters (p := q) (R := []) hG (hS.fr f9) hg (hq.ix hj9) a5 ?_ ⟨fun w => (by cases w), fun x ys hxy => ?_⟩ hfN3 hRR2 hmu2 hd').mono fun x σ1 hx => ?_
          · rw [List.append_nil]
            show agN m g ≤ (S1 ++ ol fs).length
            rw [List.length_append]
            omega
          · cases hxy
            exact ⟨rfl, hA⟩
          · obtain ⟨rfl, h⟩ := Qv_s hx
            exact ret ea f9 h
        have h69c : σc.1 103 69 = 0 := hPc.2.2.1
        have key : ¬ (2 ≤ iOp I ∧ iOp I ≤ 4) → Cv (d + 7) 307 [.ref 103, .int (nI (iOp I)), .int (nI (110 * fs.length))] σc (fun σ1 => (¬ σ1.1 103 69 = 0 → gR t n N f0 m ((f, i, L, S) :: fs, [], e, tk, 0, false) f fs σ 0 σ1) ∧ (σ1.1 103 69 = 0 → (¬ σ1.1 103 71 = 0 → gR t n N f0 m ((f, i, L, S) :: fs, [], e, tk, 0, false) f fs σ 0 σ1) ∧ (σ1.1 103 71 = 0 → gR t n N f0 m ((f, i, L, S) :: fs, [], e, tk, 0, false) f fs σ 1 σ1))) := fun h24 => by
          by_cases c0 : iOp I = 0
          · rw [if_pos c0] at eX
            rw [c0]
            exact S_M_does ⟨fun z => absurd rfl z, fun _ => m_traps h69c (trp (tr := 1) (p := I.1 + 1) (S1 := S) (by decide) (by decide) eX fC hPc trivial)⟩
          rw [if_neg c0, if_neg (by omega), if_neg (by omega), if_neg (by omega), if_neg (by omega), if_neg (by omega), if_neg (by omega)] at eX
          by_cases c16 : iOp I = 16
          · rw [if_pos c16] at eX
            obtain ⟨g1, g2, T, g3, g4, g5, g6⟩ := c16_lv b1 b2 b3 hI b4 c16
            rw [g3] at b6
            have hlS := b6.len
            rw [List.length_append, agL_len] at hlS
            have hU := hops.2.1 (.inl c16)
            rw [c16]
            refine S_M_does ⟨fun _ => ⟨fun _ => ⟨fun z => absurd rfl z, fun _ => ?_⟩, fun z => absurd z (by decide)⟩, fun z => absurd z (by decide)⟩
            refine r_U hSc hPc.at hU ?_
            rw [lN_i]
            have f4 : Fr s40 σc (okM σc q) := Fr.rf.sI rfl
            exact ent (d' := d + 6) (by omega) eX g1 (by unfold agN; omega) g5 (fC.tr (f4.mono fun _ _ => s40_ri)) (hPc.to f4 rfl)
          rw [if_neg c16] at eX
          by_cases c17 : iOp I = 17
          · rw [if_pos c17] at eX
            obtain ⟨g0, g1, g2, T, g3, g4, g5, g6⟩ := c17_lv b1 b2 b3 hI b4 c17
            rw [g3] at b6
            obtain ⟨c, r, rfl, hc, hr⟩ := b6.un
            have hlS := hr.len
            rw [List.length_append, agL_len] at hlS
            have htb : tbN m ≤ 100 := (lim_le (vd_facts b1.1.2.2.2.2.1).2.2.2.1).1
            have hlo : lo32 c < 2 ^ 32 := Nat.mod_lt _ (by decide)
            obtain ⟨q1, hU, hXq⟩ := hops.2.2.1 c17
            have hq1 : q = q1 + 1 := by
              unfold rX at hXq
              split at hXq
              · cases hXq
                rfl
              · cases hXq
            have eX : _ = (if tbN m ≤ lo32 c then ((f, i + 1, L, c :: r) :: fs, [], e, tk + 1, 5, false) else if atTb m (lo32 c) < 0 then ((f, i + 1, L, c :: r) :: fs, [], e, tk + 1, 6, false) else if sameT t m (iB I) (fnTy m (atTb m (lo32 c)).toNatClampNeg) = false then ((f, i + 1, L, c :: r) :: fs, [], e, tk + 1, 7, false) else aEn m (atTb m (lo32 c)).toNatClampNeg ((f, i + 1, L, r) :: fs, [], e, tk + 1, 0, false)) := eX
            rw [c17]
            refine S_M_does ⟨fun _ => ⟨fun _ => ⟨fun _ => ⟨fun z => absurd rfl z, fun _ => ?_⟩, fun z => absurd z (by decide)⟩, fun z => absurd z (by decide)⟩, fun z => absurd z (by decide)⟩
            refine S_M_indirect (d := d + 5) (r_U hSc hPc.at hU ?_)
            have f4 : Fr s40 σc (sI (okM σc q1) 103 40 (nI q)) := (Fr.rf.sI rfl).sI rfl
            have e4 : (okM σc q1).1 103 40 + (1 : Int32) = nI q := by
              rw [hq1]
              exact nI_1 q1
            rw [e4]
            have hP4 := hPc.to f4 (q := q) sI_ss
            refine m_pops hP4.ox fun σ5 f5 o5 => ?_
            have hP5 := hP4.pop f5 o5
            have f05 : Fr sRi σ σ5 := fC.tr ((f4.mono fun _ _ => s40_ri).tr (f5.mono fun _ _ => sOm_ri))
            have hS5 := hS.fr f05
            have k118 : σ5.2.1 118 b = lN (tbN m) := by
              have := (hS5.2.2.2.2.2.2.1.2.2.1.1 0 _ (li_first g0) rfl).1
              rw [this]
              unfold tbN lsN
              rw [if_pos g0]
            have k147 : ∀ k, k < 100 → σ5.1 147 k = atTb m k := hS5.2.2.2.2.2.2.2.2.1
            have k69 : σ5.1 103 69 = 0 := hP5.2.2.1
            rw [hS5.2.2.1, nI_clamp (n := b) (by omega), k118, and32, lg_lt, pk_lLT (by omega) (by omega)]
            refine ⟨vp_in_nI (by omega) (by decide), ?_⟩
            by_cases z1 : tbN m ≤ lo32 c
            · rw [if_pos z1] at eX
              exact ⟨fun y => by omega, fun _ => m_traps k69 (trp (tr := 5) (p := q) (S1 := r) (by decide) (by decide) eX f05 hP5 trivial)⟩
            rw [if_neg z1] at eX
            refine ⟨fun _ => ?_, fun y => by omega⟩
            rw [lN_i, nI_clamp (n := lo32 c) (by omega), k147 _ (by omega)]
            refine ⟨vp_in_nI (by omega) (by decide), ?_⟩
            rcases tb_at b1.1 (lo32 c) with w | ⟨g, w1, w2⟩
            · rw [w] at eX ⊢
              rw [if_pos (by decide)] at eX
              exact ⟨fun y => absurd y (by decide), fun _ => m_traps k69 (trp (tr := 6) (p := q) (S1 := r) (by decide) (by decide) eX f05 hP5 trivial)⟩
            · have hl2 : (mdU m).length ≤ 60 := b1.1.1.2.1
              rw [w2, if_neg (nI_pos (by omega)), nI_clamp (n := g) (by omega)] at eX
              rw [w2]
              refine ⟨fun _ => ?_, fun y => absurd (nI_pos' (by omega)) y⟩
              refine (m_typeOf hS5.1 hb2 hS5.2.2.1 hS5.2.2.2.2.2.2.1 w1).mono fun x σ6 hx => ?_
              obtain ⟨rr, rfl, hr6, hs6⟩ := Qi_s hx
              subst hr6
              show Ci (d + 5) 309 _ σ6 _
              rw [hs6, lN_i, ex]
              have htyg := (b1.1.fn w1).2.1
              refine m_same hS5 g1 htyg ?_
              cases hsm : sameT t m (iB I) (fnTy m g) with
              | false =>
                rw [if_pos hsm] at eX
                exact ⟨fun y => absurd rfl y, fun _ => m_traps k69 (trp (tr := 7) (p := q) (S1 := r) (by decide) (by decide) eX f05 hP5 trivial)⟩
              | true =>
                rw [if_neg (by rw [hsm]; decide)] at eX
                refine ⟨fun _ => ?_, fun y => absurd y (by decide)⟩
                have hag := congrArg List.length (same_ag hsm).1
                rw [agL_len, agL_len] at hag
                exact ent (d' := d + 5) (by omega) eX ⟨b1.1, w1⟩ (by unfold agN; omega) g5 f05 hP5
          rw [if_neg c17] at eX
          have hd1 : iOp I = 1 ∨ 18 ≤ iOp I := by
            have := hfI.2.2.2.2.2.2
            omega
          obtain ⟨d1, d2, d3, d4⟩ := data_I (e := e) b1 b2 b3 hI hd1 b4 b6 b5 he
          refine m_data (d := d + 2) hSc hPc u1 hd1 d1 he b5.1 hL110 (by omega) (by omega) fun σ1 hdf => ?_
          obtain ⟨fD, hen, h69, hz⟩ := hdf
          have fD2 := fC.tr (fD.mono fun _ _ => sDm_ri)
          have hPD := hPc.data (q := q) fD hfN hen h69 hz
          rw [eX] at eS
          by_cases htr : (dop m I L S e).1 = 0
          · rw [htr] at hPD eS
            rw [eS] at hRR
            have hPE := hPD.ix d3
            rw [← u2] at hPE
            exact g_go (k := 1) (Nat.le_refl _) fD2 (by rw [eit1, eS]; exact RI_of hRR) (by rw [eit1, eS]) hPE
          · rw [eS] at hRR
            exact g_bad (k := 1) (p := q) fD2 hA8 (by rw [eit1, eS]; exact RE_of htr hRR) (by rw [eit1, eS]; exact .inl htr) (by rw [eit1, eS]; exact hPD.tr htr)
        refine S_M_goesOn_158 ⟨fun z => does (key ?_), fun z => ⟨fun y => does (key ?_), fun y => ?_⟩⟩
        · have : iOp I < 2 := (nI_ltI (b := 2) (by omega) (by decide)).mp z
          omega
        · have : 4 < iOp I := (nI_ltI (a := 4) (by decide) (by omega)).mp y
          omega
        · have z2 : ¬ iOp I < 2 := fun w => z ((nI_ltI (b := 2) (by omega) (by decide)).mpr w)
          have y4 : ¬ 4 < iOp I := fun w => y ((nI_ltI (a := 4) (by decide) (by omega)).mpr w)
          have h24 : 2 ≤ iOp I ∧ iOp I ≤ 4 := by omega
          rw [if_neg (by omega)] at eX
          refine m_blocksOn (d := d + 4) hSc b1 b2 b3 hI h24 b4 b6 hPc hnl (fun hn4 σ1 f1 hq => ?_) fun h4 c r hSc2 σ1 f1 hq => ?_
          · rw [if_pos (by omega)] at eX
            rw [eX] at eS
            rw [eS] at hRR
            exact g_go (k := 1) (Nat.le_refl _) (fC.tr f1) (by rw [eit1, eS]; exact RI_of hRR) (by rw [eit1, eS]) hq
          · rw [if_neg (by omega), if_pos h4, hSc2] at eX
            have eX : _ = (if c.toInt32 = 0 then ((f, nx (mdC m).2 i + 1, L, r) :: fs, [], e, tk + 1, 0, false) else ((f, i + 1, L, r) :: fs, [], e, tk + 1, 0, false)) := eX
            rw [hSc2] at hRR eS eit1 ⊢
            rw [eX] at eS
            by_cases zc : c.toInt32 = 0
            · rw [if_pos zc] at eS hq
              rw [eS] at hRR
              exact g_go (k := 1) (Nat.le_refl _) (fC.tr f1) (by rw [eit1, eS]; exact RI_of hRR) (by rw [eit1, eS]) hq
            · rw [if_neg zc] at eS hq
              rw [eS] at hRR
              exact g_go (k := 1) (Nat.le_refl _) (fC.tr f1) (by rw [eit1, eS]; exact RI_of hRR) (by rw [eit1, eS]) hq
      refine ⟨fun z => oth ?_, fun z => ⟨fun y => oth ?_, fun y => ?_⟩⟩
      · have : iOp I < 12 := (nI_ltI (b := 12) (by omega) (by decide)).mp z
        omega
      · have : 15 < iOp I := (nI_ltI (a := 15) (by decide) (by omega)).mp y
        omega
      · have z : ¬ iOp I < 12 := fun w => z ((nI_ltI (b := 12) (by omega) (by decide)).mpr w)
        have y : ¬ 15 < iOp I := fun w => y ((nI_ltI (a := 15) (by decide) (by omega)).mpr w)
        refine (jump ⟨by omega, by omega⟩).mono fun x σ1 hx => ?_
        obtain ⟨r, rfl, hp⟩ := Qi_s hx
        exact bzr hp
end GOM2
