/-! RUNNING, the reference: jumps, blocks -/
def s40 (c j : Nat) : Bool := Nat.beq c 103 && Nat.beq j 40
theorem s40_ri {c j : Nat} (h : s40 c j = true) : sRi c j = true := by
  unfold s40 at h
  unfold sRi
  simp only [Bool.or_eq_true, Bool.and_eq_true, Nat.beq_eq, Nat.ble_eq] at h ⊢
  omega
section JMPM
variable {t : Nat → UInt8} {n b N d f i j k p q tk lab : Nat} {m : Md} {σ σ' : fkS} {L L2 S S2 A : List Int64} {e e2 : Env} {fs : List Fm} {v w : Int64} {I : In} {Q : fkS → Prop} {J : JS} {bk : Bk} {P : Int32 → fkS → Prop}
theorem PQ.to {fr : List Fm} {R : List Int64} {tr : Nat} {sp : Bool} (h : PQ t m (fr, R, e, tk, tr, sp) p σ) (f0 : Fr s40 σ σ') (h40 : σ'.1 103 40 = nI q) : PQ t m (fr, R, e, tk, tr, sp) q σ' := by
  obtain ⟨h1, h2, h3, h4, h5⟩ := h
  refine ⟨h1.fr f0 (fun _ => rfl) (fun _ => rfl) rfl, (f0 _ _ rfl).1.trans h2, (f0 _ _ rfl).1.trans h3, (f0 _ _ rfl).1.trans h4, fun z1 z2 => ?_⟩
  obtain ⟨o1, o2, o3, o4, o5, o6⟩ := h5 z1 z2
  exact ⟨o1.fr f0 rfl fun _ => rfl, o2.fr f0 fun _ => rfl, o3.fr f0 (fun _ => rfl) fun _ => rfl, (f0 _ _ rfl).1.trans o4, (f0 _ _ rfl).1.trans o5, h40⟩
/-- operands change -/
theorem PQ.pop (h : PQ t m ((f, i, L, S) :: fs, [], e, tk, 0, false) p σ) (f0 : Fr sOm σ σ') (ho : oM σ' (S2 ++ ol fs)) : PQ t m ((f, i, L, S2) :: fs, [], e, tk, 0, false) p σ' := by
  obtain ⟨t1, t2, t3, t4, t5⟩ := h
  obtain ⟨-, o2, o3, o4, o5, o6⟩ := t5 rfl rfl
  refine ⟨t1.fo f0, (f0 _ _ rfl).1.trans t2, (f0 _ _ rfl).1.trans t3, (f0 _ _ rfl).1.trans t4, fun _ _ => ⟨?_, ?_, ?_, (f0 _ _ rfl).1.trans o4, (f0 _ _ rfl).1.trans o5, (f0 _ _ rfl).1.trans o6⟩⟩
  · show oM σ' ((S2 ++ ol fs) ++ [])
    rw [List.append_nil]
    exact ho
  · have o2' : locM σ ((f, i, L, S2) :: fs) := o2
    exact o2'.fr f0 fun _ => rfl
  · have o3' : labM t m σ ((f, i, L, S2) :: fs) := o3
    exact o3'.fr f0 (fun _ => rfl) fun _ => rfl
/-- what a jump comes to -/
def jmpP (t : Nat → UInt8) (m : Md) (f i : Nat) (L S : List Int64) (fs : List Fm) (e : Env) (tk j lab : Nat) (J : JS) (bk : Bk) (P : Int32 → fkS → Prop) (σ : fkS) : Prop :=
  (bkO bk = none → ∀ σ' q, Fr sRi σ σ' → PQ t m ((f, i, L, S) :: fs, [], e, tk, 0, false) q σ' → P 0 σ') ∧ (bkO bk ≠ none → ∀ σ', Fr sRi σ σ' → PQ t m (aBr m J lab ((f, j, L, S) :: fs, [], e, tk, 0, false)) (psT m (aBr m J lab ((f, j, L, S) :: fs, [], e, tk, 0, false))) σ' → P 1 σ')
theorem jmpP.from (h : jmpP t m f i L S fs e tk j lab J bk P σ) (f0 : Fr sRi σ σ') : jmpP t m f i L S fs e tk j lab J bk P σ' := ⟨fun z σ2 q f2 hq => h.1 z σ2 q (f0.tr f2) hq, fun z σ2 f2 hq => h.2 z σ2 (f0.tr f2) hq⟩
theorem m_br2 (hS : SM t n b N m σ) (hf : okFn t n m f) (h1 : fiS (fiAt m f) ≤ i) (h2 : i ≤ fiE (fiAt m f)) (hJ : jB J = jB (jAt t m f i)) (hb : jBk J lab = some bk) (hH : brH (mdC m).2 bk S) (h : PQ t m ((f, i, L, S) :: fs, [], e, tk, 0, false) p σ) (hnl : nlb t m fs ≤ 1323) (hP : jmpP t m f i L S fs e tk j lab J bk P σ) : Ci (d + 1) 303 [.ref 103, .long (lN lab), .int (nI (nlb t m fs))] σ (fun r σ' => (r = 0 ∨ r = 1) ∧ P r σ') := m_branch (j := j) hS hf h1 h2 hJ hb hH h hnl (fun z => ⟨.inl rfl, hP.1 z σ p Fr.rf h⟩) fun z σ' f0 hq => ⟨.inr rfl, hP.2 z σ' f0 hq⟩
theorem m_j12 (hS : SM t n b N m σ) (hf : okFn t n m f) (h1 : fiS (fiAt m f) ≤ i) (h2 : i ≤ fiE (fiAt m f)) (hJ : jB J = jB (jAt t m f i)) (hb : jBk J lab = some bk) (hH : brH (mdC m).2 bk S) (h : PQ t m ((f, i, L, S) :: fs, [], e, tk, 0, false) p σ) (hnl : nlb t m fs ≤ 1323) (hU : nU t n p = .inl (lab, q)) (hP : jmpP t m f i L S fs e tk j lab J bk P σ) : Ci (d + 2) 301 [.ref 103, .int (nI 12), .int (nI (nlb t m fs))] σ P := by
  refine S_M_jumps ⟨fun _ => ⟨fun _ => ?_, fun z => absurd z (by decide)⟩, fun z => absurd z (by decide)⟩
  refine r_U hS h.at hU ⟨fun _ => ?_, fun z => absurd z (by decide)⟩
  have f0 : Fr s40 σ (okM σ q) := Fr.rf.sI rfl
  refine (m_br2 (hS.at q) hf h1 h2 hJ hb hH (h.to f0 rfl) hnl (hP.from (f0.mono fun _ _ => s40_ri))).mono fun x σ1 hx => ?_
  obtain ⟨r, rfl, hr, hp⟩ := Qi_s hx
  rcases hr with rfl | rfl
  · exact ⟨fun _ => hp, fun z => absurd rfl z⟩
  · exact ⟨fun z => absurd z (by decide), fun _ => hp⟩
theorem m_j13 {c : Int64} {r : List Int64} (hS : SM t n b N m σ) (hf : okFn t n m f) (h1 : fiS (fiAt m f) ≤ i) (h2 : i ≤ fiE (fiAt m f)) (hJ : jB J = jB (jAt t m f i)) (hb : jBk J lab = some bk) (hH : brH (mdC m).2 bk r) (h : PQ t m ((f, i, L, c :: r) :: fs, [], e, tk, 0, false) p σ) (hnl : nlb t m fs ≤ 1323) (hU : nU t n p = .inl (lab, q)) (h0 : c.toInt32 = 0 → ∀ σ', Fr sRi σ σ' → PQ t m ((f, i, L, r) :: fs, [], e, tk, 0, false) q σ' → P 1 σ') (hP : ¬ c.toInt32 = 0 → jmpP t m f i L r fs e tk j lab J bk P σ) : Ci (d + 2) 301 [.ref 103, .int (nI 13), .int (nI (nlb t m fs))] σ P := by
  refine S_M_jumps ⟨fun _ => ⟨fun _ => ?_, fun z => absurd z (by decide)⟩, fun z => absurd z (by decide)⟩
  refine r_U hS h.at hU ⟨fun z => absurd rfl z, fun _ => ?_⟩
  have f0 : Fr s40 σ (okM σ q) := Fr.rf.sI rfl
  have h2' := h.to f0 (q := q) rfl
  refine m_popInt h2'.ox fun σ1 f1 o1 => ?_
  have h3 := h2'.pop f1 o1
  have f3 : Fr sRi σ σ1 := (f0.mono fun _ _ => s40_ri).tr (f1.mono fun _ _ => sOm_ri)
  refine ⟨fun z => h0 z σ1 f3 h3, fun z => ?_⟩
  refine (m_br2 (hS.fr f3) hf h1 h2 hJ hb hH h3 hnl ((hP z).from f3)).mono fun x σ1 hx => ?_
  obtain ⟨r, rfl, hr, hp⟩ := Qi_s hx
  rcases hr with rfl | rfl
  · exact ⟨fun _ => hp, fun z => absurd rfl z⟩
  · exact ⟨fun z => absurd z (by decide), fun _ => hp⟩
theorem w_j35 {c : Nat} {σ0 : fkS} (hS0 : SM t n b N m σ0) (hc : c < 2 ^ 32) (hk99 : k ≤ 99) (hf : okFn t n m f) (h1 : fiS (fiAt m f) ≤ i) (h2 : i ≤ fiE (fiAt m f)) (hJ : jB J = jB (jAt t m f i)) (hb : jBk J lab = some bk) (hH : brH (mdC m).2 bk S) (hnl : nlb t m fs ≤ 1323) (hP : jmpP t m f i L S fs e tk j lab J bk P σ0) :
    ∀ (Ls : List Nat) (a p : Nat) (v6 : Int64) (σ : fkS), Fr s40 σ0 σ → PQ t m ((f, i, L, S) :: fs, [], e, tk, 0, false) p σ → (∃ q, pFs t n Ls.length p = .inl (Ls, q)) → a + Ls.length = k + 1 → a ≤ min c k → Ls[min c k - a]? = some lab → Wq 301 (d + 2) 35 [some (.ref 103), none, some (.int (nI (nlb t m fs))), some (.long (lN c)), none, some (.int (nI k)), some (.long v6), none, some (.int (nI a)), none, none] [] σ (Qi P)
  | [], a, p, v6, σ, f0, h, hp, hl, hle, hg => by cases hg
  | x :: Ls, a, p, v6, σ, f0, h, hp, hl, hle, hg => by
    have hS := hS0.fr (f0.mono fun _ _ => s40_ri)
    rw [List.length_cons] at hl
    obtain ⟨q, hp⟩ := hp
    rw [List.length_cons, pFs] at hp
    obtain ⟨x', q1, hu, hp⟩ := bR_inl hp
    obtain ⟨Ls', q2, hu2, hp⟩ := bR_inl hp
    have hp := Sum.inl.inj hp
    have ex := (Prod.mk.inj hp).1
    have e1 := (List.cons.inj ex).1
    have e2 := (List.cons.inj ex).2
    subst e1
    subst e2
    have f1 : Fr s40 σ (okM σ q1) := Fr.rf.sI rfl
    have h' := h.to f1 (q := q1) rfl
    have f01 := f0.tr f1
    -- the label is this one
    have here : x' = lab → Wq 301 (d + 2) 35 [some (.ref 103), none, some (.int (nI (nlb t m fs))), some (.long (lN c)), none, some (.int (nI k)), some (.long (lN x')), none, some (.int (nI k + (1 : Int32))), none, none] [] (okM σ q1) (Qi P) := fun hx => by
      rw [hx, nI_1]
      refine S_M_jumps_35 ⟨fun _ => ?_, fun z => absurd (nI_lt (Nat.lt_succ_self k) (by omega)) z⟩
      refine (m_br2 (hS.at q1) hf h1 h2 hJ hb hH h' hnl (hP.from (f01.mono fun _ _ => s40_ri))).mono fun x σ1 hx => ?_
      obtain ⟨r, rfl, hr, hp⟩ := Qi_s hx
      rcases hr with rfl | rfl
      · exact bz_b false hp
      · exact bz_b true hp
    refine S_M_jumps_35 ⟨fun z => absurd z (nI_nlt (by omega) (by omega)), fun _ => ?_⟩
    refine r_U hS h.at hu ?_
    refine pk_eq a k (fun z => ?_) fun z => ⟨fun y => ?_, fun y => ?_⟩
    · refine here ?_
      rw [show min c k - a = 0 by omega] at hg
      exact Option.some.inj hg
    · rw [nI_l (by omega), lg_eq] at y
      have hne : a ≠ c := fun w => y (by rw [w])
      rw [nI_1]
      refine w_j35 hS0 hc hk99 hf h1 h2 hJ hb hH hnl hP Ls' (a + 1) q1 v6 (okM σ q1) f01 h' ⟨q2, hu2⟩ (by omega) (by omega) ?_
      rw [show min c k - a = (min c k - (a + 1)) + 1 by omega, List.getElem?_cons_succ] at hg
      exact hg
    · rw [nI_l (by omega), lg_eq, pk_lEQ (by omega) (by omega)] at y
      refine here ?_
      rw [show min c k - a = 0 by omega] at hg
      exact Option.some.inj hg
theorem m_j14 {c : Int64} {r : List Int64} (hS : SM t n b N m σ) (hf : okFn t n m f) (h1 : fiS (fiAt m f) ≤ i) (h2 : i ≤ fiE (fiAt m f)) (hJ : jB J = jB (jAt t m f i)) (hb : jBk J lab = some bk) (hH : brH (mdC m).2 bk r) (h : PQ t m ((f, i, L, c :: r) :: fs, [], e, tk, 0, false) p σ) (hp : p < n) (hnl : nlb t m fs ≤ 1323) {q1 : Nat} (hV : nV t n p = .inl (iS I, q1)) (h99 : iS I ≤ 99) (hF : pFs t n (iS I + 1) q1 = .inl (iL I, q)) (hg : (iL I)[min (lo32 c) (iS I)]? = some lab) (hlen : (iL I).length = iS I + 1) (hP : jmpP t m f i L r fs e tk j lab J bk P σ) : Ci (d + 3) 301 [.ref 103, .int (nI 14), .int (nI (nlb t m fs))] σ P := by
  have hlo : lo32 c < 2 ^ 32 := Nat.mod_lt _ (by decide)
  refine S_M_jumps ⟨fun _ => ⟨fun z => absurd rfl z, fun _ => ?_⟩, fun z => absurd z (by decide)⟩
  refine m_pops h.ox fun σ1 f1 o1 => ?_
  have h3 := h.pop f1 o1
  have hS1 := hS.fo f1
  refine r_V hS1 h3.at hp hV ?_
  have f2 : Fr s40 σ1 (okM σ1 q1) := Fr.rf.sI rfl
  rw [and32]
  exact w_j35 (hS1.at q1) hlo h99 hf h1 h2 hJ hb hH hnl (hP.from ((f1.mono fun _ _ => sOm_ri).tr (f2.mono fun _ _ => s40_ri))) (iL I) 0 q1 0 _ Fr.rf (h3.to f2 rfl) ⟨q, by rw [hlen]; exact hF⟩ (by omega) (Nat.zero_le _) hg
theorem m_j15 {label : Int32} (hP : P 0 σ) : Ci (d + 1) 301 [.ref 103, .int (nI 15), .int label] σ P := S_M_jumps ⟨fun z => absurd rfl z, fun _ => hP⟩
/-- block, loop, if -/
theorem w_bl68 (hf : okFn t n m f) (h1 : fiS (fiAt m f) ≤ i) (h2 : i < fiE (fiAt m f)) (hI : (mdC m).2[i]? = some I) {i2 : Nat} {S0 : List Int64} (hj : jB (jAt t m f i2) = jB (jAt t m f i) ++ [(some i, S.length, iB I, false)]) (h : PQ t m ((f, i, L, S) :: fs, [], e, tk, 0, false) p σ) (hp : p = posOf (mdC m).2 i2) (hnl : nlb t m fs ≤ 1323) (hQ : ∀ σ', Fr sRi σ σ' → PQ t m ((f, i2, L, S) :: fs, [], e, tk, 0, false) (posOf (mdC m).2 i2) σ' → Q σ') : Wq 306 (d + 1) 68 [some (.ref 103), none, some (.int (nI I.1)), none] [] σ (Qv Q) := by
  obtain ⟨t1, t2, t3, t4, t5⟩ := id h
  obtain ⟨o1, o2, o3, o4, o5, o6⟩ := t5 rfl rfl
  have ho := h.ox
  have hj22 : (jB (jAt t m f i)).length ≤ 22 := (hf.jo h1 (by omega)).2.1
  have hj1 : 0 < (jB (jAt t m f i)).length := by
    rw [(hf.skj h1 (by omega)).len]
    omega
  have o5 : σ.1 103 74 = nI (((jB (jAt t m f i)).length - 1) + nlb t m fs) := o5
  refine S_M_blocksOn_68 ?_
  rw [o5, nI_clamp (by omega), nI_1, ho.1]
  refine ⟨vp_in_nI (by omega) (by decide), vp_in_nI (by omega) (by decide), hQ _ ((((Fr.rf.sI rfl).sI rfl).sI rfl)) ?_⟩
  have fL : Fr (fun c j => Nat.beq c 152 || Nat.beq c 153 || (Nat.beq c 103 && Nat.beq j 74)) σ (sI (sI (sI σ 152 ((jB (jAt t m f i)).length - 1 + nlb t m fs) (nI I.1)) 153 ((jB (jAt t m f i)).length - 1 + nlb t m fs) (nI (S ++ ol fs).length)) 103 74 (nI ((jB (jAt t m f i)).length - 1 + nlb t m fs + 1))) := ((Fr.rf.sI rfl).sI rfl).sI rfl
  have c152 : ∀ jj, (sI (sI (sI σ 152 ((jB (jAt t m f i)).length - 1 + nlb t m fs) (nI I.1)) 153 ((jB (jAt t m f i)).length - 1 + nlb t m fs) (nI (S ++ ol fs).length)) 103 74 (nI ((jB (jAt t m f i)).length - 1 + nlb t m fs + 1))).1 152 jj = if jj = (jB (jAt t m f i)).length - 1 + nlb t m fs then nI I.1 else σ.1 152 jj := fun jj => by
    show (sI σ 152 ((jB (jAt t m f i)).length - 1 + nlb t m fs) (nI I.1)).1 152 jj = _
    rw [sI3]
  have c153 : ∀ jj, (sI (sI (sI σ 152 ((jB (jAt t m f i)).length - 1 + nlb t m fs) (nI I.1)) 153 ((jB (jAt t m f i)).length - 1 + nlb t m fs) (nI (S ++ ol fs).length)) 103 74 (nI ((jB (jAt t m f i)).length - 1 + nlb t m fs + 1))).1 153 jj = if jj = (jB (jAt t m f i)).length - 1 + nlb t m fs then nI (S ++ ol fs).length else σ.1 153 jj := fun jj => by
    show (sI (sI σ 152 ((jB (jAt t m f i)).length - 1 + nlb t m fs) (nI I.1)) 153 ((jB (jAt t m f i)).length - 1 + nlb t m fs) (nI (S ++ ol fs).length)).1 153 jj = _
    rw [sI3]
    rfl
  have c74 : (sI (sI (sI σ 152 ((jB (jAt t m f i)).length - 1 + nlb t m fs) (nI I.1)) 153 ((jB (jAt t m f i)).length - 1 + nlb t m fs) (nI (S ++ ol fs).length)) 103 74 (nI ((jB (jAt t m f i)).length - 1 + nlb t m fs + 1))).1 103 74 = nI ((jB (jAt t m f i)).length - 1 + nlb t m fs + 1) := sI_ss
  generalize sI (sI (sI σ 152 ((jB (jAt t m f i)).length - 1 + nlb t m fs) (nI I.1)) 153 ((jB (jAt t m f i)).length - 1 + nlb t m fs) (nI (S ++ ol fs).length)) 103 74 (nI ((jB (jAt t m f i)).length - 1 + nlb t m fs + 1)) = σ2 at fL c152 c153 c74 ⊢
  have hlow : ∀ {gs : List Fm}, labM t m σ gs → nlb t m gs ≤ nlb t m fs → labM t m σ2 gs := fun {gs} hgs hle => by
    induction gs with
    | nil => trivial
    | cons y ys ih =>
      have hle : ((jB (jAt t m y.1 y.2.1)).length - 1) + nlb t m ys ≤ nlb t m fs := hle
      refine ⟨fun jj x oo hx hxo => ?_, ih hgs.2 (by omega)⟩
      have hlt := get_lt hx
      obtain ⟨g1, g2⟩ := hgs.1 jj x oo hx hxo
      rw [c152, c153, if_neg (by omega), if_neg (by omega)]
      exact ⟨g1, g2⟩
  refine ⟨t1.fr fL (fun _ => rfl) (fun _ => rfl) rfl, (fL _ _ rfl).1.trans t2, (fL _ _ rfl).1.trans t3, (fL _ _ rfl).1.trans t4, fun _ _ => ⟨o1.fr fL rfl fun _ => rfl, ?_, ⟨fun jj x oo hx hxo => ?_, hlow o3.2 (Nat.le_refl _)⟩, (fL _ _ rfl).1.trans o4, ?_, ?_⟩⟩
  · have o2' : locM σ ((f, i2, L, S) :: fs) := o2
    exact o2'.fr fL fun _ => rfl
  · have hx : (jB (jAt t m f i2))[jj + 1]? = some x := hx
    rw [hj] at hx
    show σ2.1 152 (nlb t m fs + jj) = _ ∧ σ2.1 153 (nlb t m fs + jj) = _
    by_cases w1 : jj + 1 < (jB (jAt t m f i)).length
    · rw [List.getElem?_append_left w1] at hx
      obtain ⟨g1, g2⟩ := o3.1 jj x oo hx hxo
      rw [c152, c153, if_neg (by omega), if_neg (by omega)]
      exact ⟨g1, g2⟩
    · have hj2 := get_lt hx
      rw [List.length_append, List.length_singleton] at hj2
      rw [List.getElem?_append_right (by omega), show jj + 1 - (jB (jAt t m f i)).length = 0 by omega] at hx
      have hx := Option.some.inj hx
      subst hx
      have ho2 : i = oo := Option.some.inj hxo
      subst ho2
      rw [c152, c153, if_pos (by omega), if_pos (by omega), posOf_get hI]
      refine ⟨rfl, ?_⟩
      show nI (S ++ ol fs).length = nI ((ol fs).length + S.length)
      rw [List.length_append, Nat.add_comm]
  · rw [c74]
    show _ = nI (((jB (jAt t m f i2)).length - 1) + nlb t m fs)
    rw [hj, List.length_append, List.length_singleton]
    congr 1
    omega
  · rw [(fL 103 40 rfl).1, o6, hp]
end JMPM
