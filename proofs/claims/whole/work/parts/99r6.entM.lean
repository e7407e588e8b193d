/-! RUNNING, the reference: a CALL begins and ends -/
section ENTM
variable {t : Nat → UInt8} {n b N d f g i j k p q tk lab a c nl sp : Nat} {m : Md} {σ σ' σ0 : fkS} {L L2 S S2 A R : List Int64} {e e2 : Env} {fs : List Fm} {v w : Int64} {I : In} {Q : fkS → Prop} {J : JS} {bk : Bk} {P : Int32 → fkS → Prop} {QQ : Option Value → fkS → Prop}
theorem stm.get : ∀ {A : List Int64}, stm σ A → ∀ (k : Nat) (v : Int64), A.reverse[k]? = some v → σ.2.1 150 k = v
  | [], _, k, v, h => by cases h
  | x :: r, hs, k, v, h => by
    rw [List.reverse_cons] at h
    by_cases z : k < r.length
    · rw [List.getElem?_append_left (by rw [List.length_reverse]; exact z)] at h
      exact stm.get hs.2 k v h
    · have hk := get_lt h
      rw [List.length_append, List.length_reverse, List.length_singleton] at hk
      have : k = r.length := by omega
      subst this
      rw [List.getElem?_append_right (by rw [List.length_reverse]; exact Nat.le_refl _), List.length_reverse, Nat.sub_self] at h
      rw [hs.1]
      exact Option.some.inj h
theorem stm.arg {A : List Int64} {a j : Nat} (hs : stm σ A) (ha : a ≤ A.length) (hj : j < a) : σ.2.1 150 (A.length - a + j) = (((A.take a).reverse)[j]?).getD 0 := by
  have htl : (A.take a).reverse.length = a := by
    rw [List.length_reverse, List.length_take]
    omega
  have hjs : ((A.take a).reverse)[j]? = some ((A.take a).reverse)[j] := List.getElem?_eq_getElem (by omega)
  rw [hjs]
  refine hs.get _ _ ?_
  have e : A.reverse = (A.drop a).reverse ++ (A.take a).reverse := by rw [← List.reverse_append, List.take_append_drop]
  have hdl : (A.drop a).reverse.length = A.length - a := by rw [List.length_reverse, List.length_drop]
  rw [e, List.getElem?_append_right (by omega), hdl, Nat.add_sub_cancel_left]
  exact hjs
def s151 (c j : Nat) : Bool := Nat.beq c 151
/-- the ARGUMENTS become locals -/
theorem w_en69 {ar : Nat → Int64} {X Y : Nat} (hX : X < 120) (h107 : σ0.1 107 X = nI a) (ha : a ≤ 60) (hsp : sp + a ≤ 30000) (h66 : σ0.1 103 66 = nI sp) (hc : c < 64) (har : ∀ j, j < a → σ0.2.1 150 (sp + j) = ar j) (hQ : ∀ σ', Fr s151 σ0 σ' → (∀ j, j < 110 * c → σ'.2.1 151 j = σ0.2.1 151 j) → (∀ j, j < a → σ'.2.1 151 (110 * c + j) = ar j) → Wq 298 (d + 1) 110 [some (.ref 103), none, some (.int (nI (110 * c))), some (.int (nI X)), some (.int (nI Y)), some (.int (0 : Int32)), none, none, none] [] σ' QQ) :
    ∀ (r k : Nat) (σ : fkS), k + r = a → Fr s151 σ0 σ → (∀ j, j < 110 * c → σ.2.1 151 j = σ0.2.1 151 j) → (∀ j, j < k → σ.2.1 151 (110 * c + j) = ar j) → Wq 298 (d + 1) 69 [some (.ref 103), none, some (.int (nI (110 * c))), some (.int (nI X)), some (.int (nI Y)), some (.int (nI k)), none, none, none] [] σ QQ
  | r, k, σ, hk, f0, hlo, hdo => by
    have k107 : σ.1 107 X = nI a := (f0 _ _ rfl).1.trans h107
    have k66 : σ.1 103 66 = nI sp := (f0 _ _ rfl).1.trans h66
    refine S_M_enters_69 ?_
    rw [nI_clamp (n := X) (by omega), k107]
    refine ⟨vp_in_nI (by omega) (by decide), ?_⟩
    match r with
    | 0 =>
      have hk : k = a := by omega
      subst hk
      exact pk_le k k (fun _ => hQ σ f0 hlo hdo) fun z => absurd z (by omega)
    | r + 1 =>
      have k150 : σ.2.1 150 (sp + k) = ar k := (f0 _ _ rfl).2.1.trans (har k (by omega))
      rw [k66, nI_add, nI_add, nI_clamp (n := sp + k) (by omega), nI_clamp (n := 110 * c + k) (by omega), k150, nI_1]
      refine pk_le a k (fun z => absurd z (by omega)) fun _ => ⟨vp_in_nI (by omega) (by decide), vp_in_nI (by omega) (by decide), ?_⟩
      refine w_en69 hX h107 ha hsp h66 hc har hQ r (k + 1) _ (by omega) (f0.sL rfl) (fun j hj => ?_) fun j hj => ?_
      · rw [sL3, if_neg (by omega)]
        exact hlo j hj
      · rw [sL3]
        by_cases z : j = k
        · rw [z, if_pos rfl]
        · rw [if_neg (by omega)]
          exact hdo j (by omega)
/-- zeros -/
theorem w_en110 {ar : Nat → Int64} {X Y at0 : Nat} (hX : X < 120) (hY : Y < 120) (h107 : σ0.1 107 X = nI a) (h134 : σ0.1 134 Y = nI nl) (h136 : σ0.1 136 Y = nI at0) (ha : a ≤ 60) (hnl : nl ≤ 50) (hc : c < 64) (h66 : σ0.1 103 66 = nI sp) (h74 : σ0.1 103 74 = nI k) (h40 : σ0.1 103 40 = nI p) (hQ : ∀ σ', Fr (fun c j => s151 c j || s40 c j) σ0 σ' → (∀ j, j < 110 * c → σ'.2.1 151 j = σ0.2.1 151 j) → (∀ j, j < a → σ'.2.1 151 (110 * c + j) = ar j) → (∀ j, j < nl → σ'.2.1 151 (110 * c + a + j) = 0) → σ'.1 103 40 = nI at0 → Wq 298 (d + 1) 177 [some (.ref 103), none, some (.int (nI (110 * c))), some (.int (nI X)), none, some (.int (nI sp)), some (.int (nI k)), some (.int (nI p)), some (.int (1 : Int32))] [] σ' QQ) :
    ∀ (r l : Nat) (σ : fkS), l + r = nl → Fr s151 σ0 σ → (∀ j, j < 110 * c → σ.2.1 151 j = σ0.2.1 151 j) → (∀ j, j < a → σ.2.1 151 (110 * c + j) = ar j) → (∀ j, j < l → σ.2.1 151 (110 * c + a + j) = 0) → Wq 298 (d + 1) 110 [some (.ref 103), none, some (.int (nI (110 * c))), some (.int (nI X)), some (.int (nI Y)), some (.int (nI l)), none, none, none] [] σ QQ
  | r, l, σ, hl, f0, hlo, hdo, hze => by
    have k107 : σ.1 107 X = nI a := (f0 _ _ rfl).1.trans h107
    have k134 : σ.1 134 Y = nI nl := (f0 _ _ rfl).1.trans h134
    have k136 : σ.1 136 Y = nI at0 := (f0 _ _ rfl).1.trans h136
    refine S_M_enters_110 ?_
    rw [nI_clamp (n := Y) (by omega), k134]
    refine ⟨vp_in_nI (by omega) (by decide), ?_⟩
    match r with
    | 0 =>
      have hl : l = nl := by omega
      subst hl
      refine pk_le l l (fun _ => ⟨vp_in_nI (by omega) (by decide), ?_⟩) fun z => absurd z (by omega)
      rw [k136, (f0 103 66 rfl).1, h66, (f0 103 74 rfl).1, h74, (f0 103 40 rfl).1, h40]
      exact hQ _ ((f0.mono fun c j h => by rw [h]; rfl).sI rfl) hlo hdo hze sI_ss
    | r + 1 =>
      rw [nI_clamp (n := X) (by omega), k107, nI_add, nI_add, nI_clamp (n := 110 * c + a + l) (by omega), nI_1]
      refine pk_le nl l (fun z => absurd z (by omega)) fun _ => ⟨vp_in_nI (by omega) (by decide), vp_in_nI (by omega) (by decide), ?_⟩
      refine w_en110 hX hY h107 h134 h136 ha hnl hc h66 h74 h40 hQ r (l + 1) _ (by omega) (f0.sL rfl) (fun j hj => ?_) (fun j hj => ?_) fun j hj => ?_
      · rw [sL3, if_neg (by omega)]
        exact hlo j hj
      · rw [sL3, if_neg (by omega)]
        exact hdo j hj
      · rw [sL3]
        by_cases z : j = l
        · rw [z, if_pos rfl]
        · rw [if_neg (by omega)]
          exact hze j (by omega)
/-- a CALL begins -/
theorem m_enpre (hS : SM t n b N m σ) (hg : okFn t n m g) (h : PQ t m (fs, R, e, tk, 0, false) p σ) (hc : fs.length < 64) (hA : agN m g ≤ (ol fs ++ R).length) (hs : (fs = [] → R.length = agN m g) ∧ (∀ x ys, fs = x :: ys → R = [] ∧ agN m g ≤ x.2.2.2.length)) (hn : fsN fs)
    (hk : ∀ σ', Fr sRi σ σ' → PQ t m (aEn m g (fs, R, e, tk, 0, false)) (posOf (mdC m).2 (fiS (fiAt m g))) σ' → Wq 298 (d + 2) 177 [some (.ref 103), none, some (.int (nI (110 * fs.length))), some (.int (nI (60 * b + fnTy m g))), none, some (.int (nI ((ol fs ++ R).length - agN m g))), some (.int (nI (nlb t m fs))), some (.int (nI p)), some (.int (1 : Int32))] [] σ' QQ) : Cl (d + 2) 298 [.ref 103, .int (nI g)] σ QQ := by
  obtain ⟨t1, t2, t3, t4, t5⟩ := id h
  obtain ⟨o1, o2, o3, o4, o5, o6⟩ := t5 rfl rfl
  have o4 : σ.1 103 70 = nI fs.length := o4
  have o5 : σ.1 103 74 = nI (nlb t m fs) := o5
  have o1 : oM σ (ol fs ++ R) := o1
  have hb2 := hS.2.1
  have hl2 : (mdU m).length ≤ 60 := hS.1.1.2.1
  have hl1 : (mdT m).length ≤ 60 := hS.1.1.1
  have hgU : g < (mdU m).length := hg.2
  obtain ⟨-, hty, hfT⟩ := hS.1.fn hgU
  have ha60 : agN m g ≤ 60 := hfT.1
  have hnl50 : lcN m g ≤ 50 := (hg.F.2.2.2 _ (List.mem_of_getElem? (fiAt_get hg.fl))).1
  obtain ⟨y1, y2, y3⟩ := hS.ty hty
  obtain ⟨-, z1, z2, z3⟩ := hS.2.2.2.2.2.2.1.2.2.2.2.2.2.2.1 g _ (fiAt_get hg.fl)
  have hpos : posOf (mdC m).2 (fiS (fiAt m g)) = (fiAt m g).2.1 := by
    obtain ⟨⟨⟨I0, hI0, hI1⟩, -⟩, -⟩ := hg.rd
    rw [posOf_get hI0, hI1]
  have f1 : Fr sRi σ (sI σ 103 70 (nI (fs.length + 1))) := Fr.rf.sI rfl
  have hS1 := hS.fr f1
  refine S_M_enters ⟨fun _ => ?_, fun z => absurd z (by rw [o4]; exact fun y => absurd ((nI_eq (b := 64) (by omega) (by decide)).mp y) (by omega))⟩
  rw [o4, nI_1, show (110 : Int32) = nI 110 from rfl, nI_mul]
  refine (m_typeOf hS1.1 hb2 hS1.2.2.1 hS1.2.2.2.2.2.2.1 hgU).mono fun x σ1 hx => ?_
  obtain ⟨r, rfl, hr, hs1⟩ := Qi_s hx
  subst hr
  show _ ∧ _
  rw [hs1]
  have hlA : (ol fs ++ R).length ≤ 30000 := o1.2.1
  have e37 : (sI σ 103 70 (nI (fs.length + 1))).1 103 37 = nI b := hS1.2.2.1
  have e66 : (sI σ 103 70 (nI (fs.length + 1))).1 103 66 = nI (ol fs ++ R).length := o1.1
  have e107 : (sI σ 103 70 (nI (fs.length + 1))).1 107 (60 * b + fnTy m g) = nI (agN m g) := y1
  rw [e37, e66, ex, nI_clamp (n := 60 * b + fnTy m g) (by omega), e107, nI_sub hA]
  refine ⟨vp_in_nI (by omega) (by decide), ?_⟩
  have f2 : Fr (fun c j => Nat.beq c 103 && (Nat.beq j 66 || Nat.beq j 70)) σ (sI (sI σ 103 70 (nI (fs.length + 1))) 103 66 (nI ((ol fs ++ R).length - agN m g))) := (Fr.rf.sI rfl).sI rfl
  have e66' : (sI (sI σ 103 70 (nI (fs.length + 1))) 103 66 (nI ((ol fs ++ R).length - agN m g))).1 103 66 = nI ((ol fs ++ R).length - agN m g) := sI_ss
  have e70' : (sI (sI σ 103 70 (nI (fs.length + 1))) 103 66 (nI ((ol fs ++ R).length - agN m g))).1 103 70 = nI (fs.length + 1) := rfl
  generalize sI (sI σ 103 70 (nI (fs.length + 1))) 103 66 (nI ((ol fs ++ R).length - agN m g)) = σ2 at f2 e66' e70' ⊢
  -- the stack without the ARGUMENTS
  have hspl : ol fs ++ R = (ol fs ++ R).take (agN m g) ++ (ol fs ++ R).drop (agN m g) := (List.take_append_drop _ _).symm
  have hdl : ((ol fs ++ R).drop (agN m g)).length = (ol fs ++ R).length - agN m g := List.length_drop
  have o7 : oM σ2 ((ol fs ++ R).drop (agN m g)) := (hspl ▸ o1 : oM σ _).cut (by rw [hdl]; exact e66') fun k _ => (f2 150 k rfl).2.1
  have har : ∀ j, j < agN m g → σ2.2.1 150 ((ol fs ++ R).length - agN m g + j) = ((((ol fs ++ R).take (agN m g)).reverse)[j]?).getD 0 := fun j hj => by
    rw [(f2 150 _ rfl).2.1]
    exact o1.2.2.arg hA hj
  refine w_en69 (d := d + 1) (σ0 := σ2) (a := agN m g) (c := fs.length) (sp := (ol fs ++ R).length - agN m g) (ar := fun j => ((((ol fs ++ R).take (agN m g)).reverse)[j]?).getD 0) (X := 60 * b + fnTy m g) (Y := 60 * b + g) (by omega) ((f2 _ _ rfl).1.trans y1) ha60 (by omega) e66' hc har (fun σ3 f3 g1 g2 => ?_) (agN m g) 0 σ2 (Nat.zero_add _) Fr.rf (fun _ _ => rfl) fun j hj => absurd hj (Nat.not_lt_zero j)
  have f23 : Fr (fun c j => (Nat.beq c 103 && (Nat.beq j 66 || Nat.beq j 70)) || s151 c j) σ σ3 := (f2.mono fun c j h => by rw [h]; rfl).tr (f3.mono fun c j h => by rw [h, Bool.or_true])
  refine w_en110 (d := d + 1) (σ0 := σ3) (a := agN m g) (nl := lcN m g) (c := fs.length) (k := nlb t m fs) (p := p) (sp := (ol fs ++ R).length - agN m g) (ar := fun j => ((((ol fs ++ R).take (agN m g)).reverse)[j]?).getD 0) (X := 60 * b + fnTy m g) (Y := 60 * b + g) (at0 := (fiAt m g).2.1) (by omega) (by omega) ((f23 _ _ rfl).1.trans y1) ((f23 _ _ rfl).1.trans z1) ((f23 _ _ rfl).1.trans z3) ha60 hnl50 hc ((f3 _ _ rfl).1.trans e66') ((f23 _ _ rfl).1.trans o5) ((f23 _ _ rfl).1.trans o6) (fun σ4 f4 g3 g4 g5 g6 => ?_) (lcN m g) 0 σ3 (Nat.zero_add _) Fr.rf (fun _ _ => rfl) g2 fun j hj => absurd hj (Nat.not_lt_zero j)
  have f24 : Fr (fun c j => (Nat.beq c 103 && (Nat.beq j 66 || Nat.beq j 70)) || s151 c j || s40 c j) σ σ4 := (f23.mono fun c j h => by rw [h]; rfl).tr (f4.mono fun c j h => by
    have h : (s151 c j || s40 c j) = true := h
    rw [Bool.or_assoc, h, Bool.or_true])
  have fri : Fr sRi σ σ4 := f24.mono fun c j h => by
    unfold s151 s40 at h
    unfold sRi
    simp only [Bool.or_eq_true, Bool.and_eq_true, Nat.beq_eq, Nat.ble_eq] at h ⊢
    omega
  -- the new locals
  have hloc : ∀ (A1 : List Int64), A1.take (agN m g) = (ol fs ++ R).take (agN m g) → ∀ (k : Nat) (v : Int64), ((A1.take (agN m g)).reverse ++ List.replicate (lcN m g) 0)[k]? = some v → σ4.2.1 151 (110 * fs.length + k) = v := fun A1 hA1 k v hk => by
    rw [hA1] at hk
    have htl : ((ol fs ++ R).take (agN m g)).reverse.length = agN m g := by
      rw [List.length_reverse, List.length_take]
      omega
    by_cases w1 : k < agN m g
    · rw [List.getElem?_append_left (by omega)] at hk
      rw [g4 k w1, hk]
      rfl
    · rw [List.getElem?_append_right (by omega), htl] at hk
      have hlt := get_lt hk
      rw [List.length_replicate] at hlt
      rw [List.getElem?_replicate, if_pos hlt] at hk
      have := g5 (k - agN m g) hlt
      rw [show 110 * fs.length + agN m g + (k - agN m g) = 110 * fs.length + k by omega] at this
      rw [this]
      exact Option.some.inj hk
  have hlow : ∀ j, j < 110 * fs.length → σ4.2.1 151 j = σ.2.1 151 j := fun j hj => (g3 j hj).trans ((g1 j hj).trans (f2 151 j rfl).2.1)
  have hoM4 : oM σ4 ((ol fs ++ R).drop (agN m g)) := (o7.fr f3 rfl fun _ => rfl).fr f4 rfl fun _ => rfl
  have hjb : jB (jAt t m g (fiS (fiAt m g))) = [(none, 0, (tyAt m (fnTy m g)).2.2, false)] := by rw [hg.st0]; rfl
  have hlabN : ∀ gs : List Fm, ∀ L1 : List Int64, labM t m σ4 gs → labM t m σ4 ((g, fiS (fiAt m g), L1, []) :: gs) := fun gs L1 hgs => ⟨fun j x o hx ho => by
    have hx : (jB (jAt t m g (fiS (fiAt m g))))[j + 1]? = some x := hx
    rw [hjb] at hx
    exact absurd hx (by simp), hgs⟩
  refine hk σ4 fri ?_
  have h70 : σ4.1 103 70 = nI (fs.length + 1) := (f4 _ _ rfl).1.trans ((f3 _ _ rfl).1.trans e70')
  have h74 : σ4.1 103 74 = nI (nlb t m fs) := (f24 _ _ rfl).1.trans o5
  unfold aEn
  have hne : ¬ (sF (fs, R, e, tk, 0, false)).length = 64 := by
    show ¬ fs.length = 64
    omega
  rw [if_neg hne]
  rw [hpos]
  cases fs with
  | nil =>
    have hR := hs.1 rfl
    refine ⟨t1.fr f24 (fun _ => rfl) (fun _ => rfl) rfl, (f24 _ _ rfl).1.trans t2, (f24 _ _ rfl).1.trans t3, (f24 _ _ rfl).1.trans t4, fun _ _ => ⟨?_, ⟨hloc R rfl, trivial⟩, hlabN [] _ trivial, h70, ?_, g6⟩⟩
    · exact hoM4
    · rw [h74]
      show nI 0 = nI (((jB (jAt t m g (fiS (fiAt m g)))).length - 1) + 0)
      rw [hjb]
      rfl
  | cons x ys =>
    obtain ⟨f, i, L, S⟩ := x
    obtain ⟨hR, hSl⟩ := hs.2 _ _ rfl
    subst hR
    have hSl : agN m g ≤ S.length := hSl
    have hol : ol ((f, i, L, S) :: ys) ++ [] = S ++ ol ys := List.append_nil _
    have htk : (ol ((f, i, L, S) :: ys) ++ []).take (agN m g) = S.take (agN m g) := by
      rw [hol, List.take_append_of_le_length hSl]
    have hdk : (ol ((f, i, L, S) :: ys) ++ []).drop (agN m g) = S.drop (agN m g) ++ ol ys := by
      rw [hol, List.drop_append_of_le_length hSl]
    rw [hdk] at hoM4
    have o2' : locM σ4 ((f, i, L, S.drop (agN m g)) :: ys) := by
      have : locM σ4 ((f, i, L, S) :: ys) := locM.eq hn hlow o2
      exact this
    have o3' : labM t m σ4 ((f, i, L, S.drop (agN m g)) :: ys) := by
      have : labM t m σ4 ((f, i, L, S) :: ys) := o3.fr f24 (fun _ => rfl) fun _ => rfl
      exact this
    refine ⟨t1.fr f24 (fun _ => rfl) (fun _ => rfl) rfl, (f24 _ _ rfl).1.trans t2, (f24 _ _ rfl).1.trans t3, (f24 _ _ rfl).1.trans t4, fun _ _ => ⟨?_, ⟨hloc S htk.symm, o2'⟩, hlabN _ _ o3', h70, ?_, g6⟩⟩
    · show oM σ4 (([] ++ (S.drop (agN m g) ++ ol ys)) ++ [])
      rw [List.append_nil, List.nil_append]
      exact hoM4
    · rw [h74]
      show nI (nlb t m ((f, i, L, S) :: ys)) = nI (((jB (jAt t m g (fiS (fiAt m g)))).length - 1) + nlb t m ((f, i, L, S) :: ys))
      rw [hjb]
      show _ = nI (0 + _)
      rw [Nat.zero_add]
end ENTM
