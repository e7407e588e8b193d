/-! VARIABLES of a run, the class -/
def sDa (c j : Nat) : Bool := (Nat.beq c 56 && (Nat.beq j 4 || Nat.beq j 8 || Nat.beq j 15)) || Nat.beq c 57 || Nat.beq c 58 || Nat.beq c 60
theorem sDa_run {c j : Nat} (h : sDa c j = true) : sRun c j = true := by
  unfold sDa at h
  unfold sRun
  simp only [Bool.or_eq_true, Bool.and_eq_true, Nat.beq_eq, Nat.ble_eq] at h ⊢
  omega
theorem sOp_da {c j : Nat} (h : sOp c j = true) : sDa c j = true := by
  unfold sOp at h
  unfold sDa
  simp only [Bool.or_eq_true, Bool.and_eq_true, Nat.beq_eq] at h ⊢
  omega
theorem sTr_da {c j : Nat} (h : sTr c j = true) : sDa c j = true := by
  unfold sTr sOp at h
  unfold sDa
  simp only [Bool.or_eq_true, Bool.and_eq_true, Nat.beq_eq] at h ⊢
  omega
theorem sMv2_da {c j : Nat} (h : sMv2 c j = true) : sDa c j = true := by
  unfold sMv2 sTr sOp at h
  unfold sDa
  simp only [Bool.or_eq_true, Bool.and_eq_true, Nat.beq_eq] at h ⊢
  omega
theorem lo_split {L : List Int64} {k : Nat} {v : Int64} (h : L[k]? = some v) (T R : List Int64) : ∃ P B, T ++ (L.reverse ++ R) = (T ++ P) ++ v :: B ∧ B.length = k + R.length ∧ ∀ (T2 : List Int64) (w : Int64), T2 ++ ((L.set k w).reverse ++ R) = (T2 ++ P) ++ w :: B := by
  obtain ⟨hk, hv⟩ := List.getElem?_eq_some_iff.mp h
  have e : ∀ w, (L.set k w).reverse = (L.drop (k + 1)).reverse ++ w :: (L.take k).reverse := fun w => by
    rw [List.set_eq_take_append_cons_drop, if_pos hk, List.reverse_append, List.reverse_cons, List.append_assoc]
    rfl
  have e0 : L.set k v = L := by
    rw [← hv]
    exact List.set_getElem_self hk
  refine ⟨(L.drop (k + 1)).reverse, (L.take k).reverse ++ R, ?_, ?_, fun T2 w => ?_⟩
  · have := e v
    rw [e0] at this
    rw [this]
    simp only [List.append_assoc, List.cons_append]
  · rw [List.length_append, List.length_reverse, List.length_take]
    omega
  · rw [e w]
    simp only [List.append_assoc, List.cons_append]
section VARX
variable {t : Nat → UInt8} {n d f i j tk : Nat} {m : Md} {σ σ' : fkS} {L L2 S S2 R P B : List Int64} {e e2 : Env} {sp : Bool} {fs : List Fm} {v w : Int64} {I : In} {Q : fkS → Prop}
theorem PX.data {tr : Nat} (h : PX m ((f, j, L, S) :: fs, R, e, tk, 0, sp) σ) (f0 : Fr sDa σ σ') (he : envX m e2 σ') (ht : σ'.1 56 15 = nI tr) (ho : tr = 0 → oX σ' (S2 ++ (L2.reverse ++ (fl fs ++ R)))) (hL : L2.length = L.length) : PX m ((f, j, L2, S2) :: fs, R, e2, tk, tr, sp) σ' := by
  obtain ⟨h1, h2, h3, h4⟩ := h
  obtain ⟨-, h5, h6⟩ := h4 rfl
  refine ⟨he, (f0 _ _ rfl).1.trans h2, ht, fun z => ⟨?_, ?_, ?_⟩⟩
  · show oX σ' ((S2 ++ (L2.reverse ++ fl fs)) ++ R)
    rw [List.append_assoc, List.append_assoc]
    exact ho z
  · have := h5.fr f0 fun _ => rfl
    exact this
  · have := h6.fr f0 rfl rfl rfl rfl
    refine ⟨this.1, this.2.1, this.2.2.1, ?_⟩
    show σ'.1 56 13 = nI ((fl fs).length + L2.length)
    rw [hL]
    exact this.2.2.2
theorem x_local32 (hB : oX σ (P ++ v :: B)) (hl : (P ++ v :: B).length < 24000) (hQ : ∀ σ', σ'.2.2 = σ.2.2 → Fr sOp σ σ' → oX σ' (v :: (P ++ v :: B)) → Q σ') : Dv (d + 1) 118 [.ref 56, .int (nI 32), .int (nI B.length)] σ Q := by
  have hlt : B.length < (P ++ v :: B).length := by rw [List.length_append, List.length_cons]; omega
  refine S_Machine_local (Q := Qv _) ⟨fun z => absurd z (nI_pos (by omega)), fun _ => ?_⟩
  rw [hB.1]
  refine pk_lt B.length (P ++ v :: B).length (fun _ => ⟨fun z => absurd rfl z, fun _ => ⟨vp_in_nI (by omega) (by decide), ?_⟩⟩) fun z => by omega
  rw [nI_clamp (by omega), hB.2.2.at]
  refine x_push hB hl fun σ1 e1 f1 o1 => ?_
  rw [sW_eq e1]
  exact ⟨e1, hQ σ1 e1 f1 o1⟩
theorem x_local33 {op : Nat} (hop : op = 33 ∨ op = 34) (hB : oX σ (w :: (P ++ v :: B))) (hQ : ∀ σ', σ'.2.2 = σ.2.2 → Fr sOp σ σ' → oX σ' ((if op = 34 then [w] else []) ++ (P ++ w :: B)) → Q σ') : Dv (d + 1) 118 [.ref 56, .int (nI op), .int (nI B.length)] σ Q := by
  have h24 : (w :: (P ++ v :: B)).length ≤ 24000 := hB.2.1
  have hlw : (P ++ w :: B).length = (P ++ v :: B).length := by rw [List.length_append, List.length_cons, List.length_append, List.length_cons]
  have hlt : B.length < (P ++ v :: B).length := by rw [List.length_append, List.length_cons]; omega
  rw [List.length_cons] at h24
  refine S_Machine_local (Q := Qv _) ⟨fun z => absurd z (nI_pos (by omega)), fun _ => ?_⟩
  rw [hB.1]
  refine pk_lt B.length (w :: (P ++ v :: B)).length (fun _ => ⟨fun _ => ?_, fun z => absurd ((nI_eq (b := 32) (by omega) (by decide)).mp z) (by omega)⟩) (fun z => by rw [List.length_cons] at z; omega) (hb := by rw [List.length_cons]; omega)
  refine x_pop hB fun σ1 e1 f1 o1 => ?_
  simp only [sW_eq e1]
  refine ⟨vp_in_nI (by omega) (by decide), ?_⟩
  rw [nI_clamp (by omega)]
  have o2 : oX (sL σ1 60 B.length w) (P ++ w :: B) := ⟨o1.1.trans (by rw [hlw]), by rw [hlw]; exact o1.2.1, o1.2.2.set sL_ss fun k hk => sL_so hk⟩
  have f2 : Fr sOp σ (sL σ1 60 B.length w) := f1.sL rfl
  have e2 : (sL σ1 60 B.length w).2.2 = σ.2.2 := e1
  generalize sL σ1 60 B.length w = σ2 at o2 f2 e2
  refine And.comm.mp (pk_eq op 34 (fun z => ?_) (fun z => ?_) (hb := by decide))
  · rw [if_pos z] at hQ
    refine x_push o2 (by omega) fun σ3 e3 f3 o3 => ?_
    rw [sW_eq (e3.trans e2)]
    exact ⟨e3.trans e2, hQ σ3 (e3.trans e2) (f2.tr f3) o3⟩
  · rw [if_neg z] at hQ
    exact ⟨e2, hQ σ2 e2 f2 o2⟩
theorem x_var (hop : iOp I = 26 ∨ iOp I = 27 ∨ 32 ≤ iOp I ∧ iOp I ≤ 36) (h : PX m ((f, j, L, S) :: fs, [], e, tk, 0, sp) σ) (hs : opSh m f I S) (hLl : L.length = loN m f) (hl : (fl ((f, j, L, S) :: fs)).length < 24000) (hg : (mdG m).length ≤ 60) (hQ : ∀ σ', σ'.2.2 = σ.2.2 → Fr sDa σ σ' → PX m ((f, j, (dop m I L S e).2.1, (dop m I L S e).2.2.1) :: fs, [], (dop m I L S e).2.2.2, tk, (dop m I L S e).1, sp) σ' → Q σ') : Dv (d + 2) 117 [.ref 56, .int (nI (iOp I)), .int (nI (iB I))] σ Q := by
  have hox := h.ox
  have hl : (S ++ (L.reverse ++ fl fs)).length < 24000 := hl
  have e0 : fl fs ++ [] = fl fs := List.append_nil _
  rw [e0] at hox
  obtain ⟨t1, t2, t3, t4⟩ := id h
  have ht : σ.1 56 15 = nI 0 := t3
  obtain ⟨-, -, -, -, k12, -⟩ := t4 rfl
  have k12 : σ.1 56 12 = nI (fl fs).length := k12
  have fin : ∀ {σ' : fkS} {L2 S2 : List Int64} {e2 : Env}, dop m I L S e = (0, L2, S2, e2) → σ'.2.2 = σ.2.2 → Fr sDa σ σ' → σ'.1 56 15 = σ.1 56 15 → envX m e2 σ' → oX σ' (S2 ++ (L2.reverse ++ fl fs)) → L2.length = L.length → σ'.2.2 = σ.2.2 ∧ Q σ' := fun {σ' L2 S2 e2} hd e1 f1 h15 hen o1 hL => by
    refine ⟨e1, hQ σ' e1 f1 ?_⟩
    rw [hd]
    exact h.data f1 hen (h15.trans ht) (fun _ => by rw [e0]; exact o1) hL
  have mo : ∀ {σ' : fkS}, Fr sOp σ σ' → Fr sDa σ σ' := fun f1 => f1.mono fun _ _ => sOp_da
  obtain ⟨s1, s2, s3, s4, s5, s6, -⟩ := hs
  rcases hop with h1 | h1 | h1
  · rw [h1]
    obtain ⟨v, r, rfl⟩ := s1 h1
    refine S_Machine_variable (Q := Qv _) ⟨fun _ => ?_, fun z => absurd (by decide) z⟩
    refine x_pop hox fun σ1 e1 f1 o1 => ?_
    simp only [sW_eq e1]
    exact fin (by unfold dop; rw [h1]; rfl) e1 (mo f1) (f1 _ _ rfl).1 (t1.fo f1) o1 rfl
  · rw [h1]
    obtain ⟨c, b, a, r, rfl⟩ := s2 h1
    refine S_Machine_variable (Q := Qv _) ⟨fun z => absurd z (by decide), fun _ => ⟨fun _ => ?_, fun z => absurd (by decide) z⟩⟩
    refine x_pop hox fun σ1 e1 f1 o1 => ?_
    simp only [sW_eq e1]
    refine x_pop o1 fun σ2 e2 f2 o2 => ?_
    simp only [sW_eq (e2.trans e1)]
    refine x_pop o2 fun σ3 e3 f3 o3 => ?_
    have e3 := e3.trans (e2.trans e1)
    have f3 := (f1.tr f2).tr f3
    simp only [sW_eq e3]
    have hl3 : (r ++ (L.reverse ++ fl fs)).length < 24000 := by
      simp only [List.cons_append, List.length_cons] at hl
      omega
    have hd : dop m I L (c :: b :: a :: r) e = (0, L, (if c.toInt32 = 0 then b else a) :: r, e) := by unfold dop; rw [h1]; rfl
    refine ⟨fun z => ?_, fun z => ?_⟩
    · rw [if_pos z] at hd
      refine x_push o3 hl3 fun σ4 e4 f4 o4 => ?_
      rw [sW_eq (e4.trans e3)]
      exact fin hd (e4.trans e3) (mo (f3.tr f4)) ((f3.tr f4) _ _ rfl).1 (t1.fo (f3.tr f4)) o4 rfl
    · rw [if_neg z] at hd
      refine x_push o3 hl3 fun σ4 e4 f4 o4 => ?_
      rw [sW_eq (e4.trans e3)]
      exact fin hd (e4.trans e3) (mo (f3.tr f4)) ((f3.tr f4) _ _ rfl).1 (t1.fo (f3.tr f4)) o4 rfl
  · have hne : ∀ {c : Nat}, c < 2 ^ 31 → iOp I ≠ c → ¬ (nI (iOp I)).toInt = (c : Int) := fun hc z y => by
      rw [nI_toInt (by omega)] at y
      omega
    refine S_Machine_variable (Q := Qv _) ⟨fun z => absurd z (hne (c := 26) (by decide) (by omega)), fun _ => ⟨fun z => absurd z (hne (c := 27) (by decide) (by omega)), fun _ => ?_⟩⟩
    by_cases h35 : iOp I = 35
    · rw [h35]
      refine ⟨fun _ => ?_, fun z => absurd (by decide) z⟩
      have hb := s5 (by omega)
      refine ⟨vp_in_nI (by omega) (by decide), ?_⟩
      rw [nI_clamp (by omega), t1.1 _ hb]
      refine x_push hox hl fun σ1 e1 f1 o1 => ?_
      rw [sW_eq e1]
      exact fin (by unfold dop; rw [h35]; rfl) e1 (mo f1) (f1 _ _ rfl).1 (t1.fo f1) o1 rfl
    refine ⟨fun z => absurd z (hne (c := 35) (by decide) h35), fun _ => ?_⟩
    by_cases h36 : iOp I = 36
    · rw [h36]
      refine ⟨fun _ => ?_, fun z => absurd (by decide) z⟩
      have hb := s5 (by omega)
      obtain ⟨v, r, rfl⟩ := s6 h36
      refine x_pop hox fun σ1 e1 f1 o1 => ?_
      simp only [sW_eq e1]
      refine ⟨vp_in_nI (by omega) (by decide), ?_⟩
      rw [nI_clamp (by omega)]
      have g1 := t1.fo f1
      refine fin (L2 := L) (S2 := r) (e2 := (updG (eG e) (iB I) v, eM e, eP e)) (by unfold dop; rw [h36]; rfl) e1 ((mo f1).sL rfl) (f1 _ _ rfl).1 ⟨fun k hk => ?_, fun k hk => ?_, g1.2.2⟩ (o1.fr (S := fun c _ => Nat.beq c 57) (Fr.rf.sL rfl) rfl fun _ => rfl) rfl
      · rw [sL3]
        show _ = updG (eG e) (iB I) v k
        unfold updG
        by_cases z : k = iB I
        · rw [if_pos z, if_pos z]
        · rw [if_neg z, if_neg z]
          exact g1.1 k hk
      · rw [sL_o (by decide)]
        exact g1.2.1 k hk
    refine ⟨fun z => absurd z (hne (c := 36) (by decide) h36), fun _ => ?_⟩
    have hlo := s3 (by omega)
    have hk : L[iB I]? = some L[iB I] := List.getElem?_eq_getElem (by omega)
    rw [k12, nI_add, Nat.add_comm (fl fs).length]
    by_cases h32 : iOp I = 32
    · obtain ⟨P, B, q1, q2, -⟩ := lo_split hk S (fl fs)
      rw [q1] at hox hl
      rw [← q2, h32]
      refine x_local32 hox hl fun σ1 e1 f1 o1 => ?_
      rw [sW_eq e1]
      rw [← q1] at o1
      refine fin (L2 := L) (S2 := L[iB I] :: S) (e2 := e) ?_ e1 (mo f1) (f1 _ _ rfl).1 (t1.fo f1) o1 rfl
      unfold dop
      rw [h32]
      show (0, L, (L[iB I]?).getD 0 :: S, e) = _
      rw [hk]
      rfl
    · obtain ⟨w, r, rfl⟩ := s4 (by omega)
      obtain ⟨P, B, q1, q2, q3⟩ := lo_split hk r (fl fs)
      have hox : oX σ (w :: (r ++ (L.reverse ++ fl fs))) := hox
      rw [q1] at hox
      rw [← q2]
      refine x_local33 (by omega) hox fun σ1 e1 f1 o1 => ?_
      rw [sW_eq e1]
      by_cases h34 : iOp I = 34
      · rw [if_pos h34] at o1
        refine fin (L2 := L.set (iB I) w) (S2 := w :: r) (e2 := e) (by unfold dop; rw [h34]; rfl) e1 (mo f1) (f1 _ _ rfl).1 (t1.fo f1) ?_ List.length_set
        rw [List.cons_append, q3]
        exact o1
      · rw [if_neg h34] at o1
        refine fin (L2 := L.set (iB I) w) (S2 := r) (e2 := e) (by unfold dop; rw [show iOp I = 33 by omega]; rfl) e1 (mo f1) (f1 _ _ rfl).1 (t1.fo f1) ?_ List.length_set
        rw [q3]
        exact o1
end VARX
