/-! A CALL by the TABLE, marks: the class -/
section CTLX3
variable {t : Nat → UInt8} {n d f g i j k l tk : Nat} {m : Md} {σ σ' : fkS} {L S R A B : List Int64} {e : Env} {sp : Bool} {fs : List Fm} {v w : Int64} {Q : fkS → Prop}
theorem SX.tyA {ty j : Nat} (hX : SX t n m σ) (h : ty < (mdT m).length) (hj : j < (tyAt m ty).2.1) : Di d 87 [.ref 3, .int (nI ty), .int (nI j)] σ (fun r σ' => r = nI (t ((tyAt m ty).1 + j)).toNat ∧ σ' = σ) := by
  obtain ⟨hl, hf, -, -, -, hn4, -⟩ := hX.1
  have l1 : (mdT m).length ≤ 60 := hl.1
  obtain ⟨f1, f2, f3, f4⟩ := hf.1 _ (List.mem_of_getElem? (tyAt_get h))
  have e3 : (3 : Int32) * nI ty = nI (3 * ty) := by rw [show (3 : Int32) = nI 3 from rfl, nI_mul]
  have k5 : σ.1 5 (3 * ty) = nI (tyAt m ty).1 := (hX.2.1.1.2 ty _ (tyAt_get h)).1
  have k4 : σ.1 4 ((tyAt m ty).1 + j) = (t ((tyAt m ty).1 + j)).toInt8.toInt32 := hX.2.1.2.2.2.2.2.2.2.2.2.2 _ (by omega)
  refine S_ModuleRows_argumentType ?_
  rw [e3, nI_clamp (n := 3 * ty) (by omega), k5, nI_add, nI_clamp (by omega), k4]
  exact ⟨vp_in_nI (by omega) (by decide), vp_in_nI (by omega) (by decide), rfl, tb (f2 j hj), rfl⟩
theorem x_same33 {a b : Nat} (hX : SX t n m σ) (ha : a < (mdT m).length) (hb : b < (mdT m).length) (he : (tyAt m a).2.1 = (tyAt m b).2.1) (hg : (tyAt m a).2.2 = (tyAt m b).2.2) {P : Int32 → fkS → Prop} (hP : P (b2i (sameT t m a b)) σ) :
    ∀ (r k : Nat), k + r = (tyAt m a).2.1 → (∀ j, j < k → t ((tyAt m a).1 + j) = t ((tyAt m b).1 + j)) → Wq 116 (d + 1) 33 [some (.ref 3), some (.int (nI a)), some (.int (nI b)), some (.int (nI (tyAt m a).2.1)), some (.int (nI k))] [] σ (Qi fun x σ' => σ'.2.2 = σ.2.2 ∧ P x σ')
  | r, k, hk, hj => by
    have f1 : (tyAt m a).2.1 ≤ 60 := (hX.1.2.1.1 _ (List.mem_of_getElem? (tyAt_get ha))).1
    refine S_ModuleRows_sameTypes_33 ?_
    match r with
    | 0 =>
      have hk : k = (tyAt m a).2.1 := by omega
      subst hk
      refine pk_le (tyAt m a).2.1 (tyAt m a).2.1 (fun _ => ⟨rfl, ?_⟩) fun z => absurd z (by omega)
      have : sameT t m a b = true := by
        unfold sameT
        rw [Bool.and_eq_true, Bool.and_eq_true, decide_eq_true_iff, decide_eq_true_iff, List.all_eq_true]
        exact ⟨⟨he, hg⟩, fun j hm => decide_eq_true (hj j (List.mem_range.mp hm))⟩
      rw [this] at hP
      exact hP
    | r + 1 =>
      refine pk_le (tyAt m a).2.1 k (fun z => absurd z (by omega)) fun _ => ?_
      refine (hX.tyA ha (j := k) (by omega)).mono fun z σ1 hz => ?_
      obtain ⟨x, rfl, eq1, hx, hs⟩ := Qi_s hz
      subst hx
      refine ⟨eq1, ?_⟩
      simp only [sW_eq eq1]
      rw [hs]
      refine (hX.tyA hb (j := k) (by omega)).mono fun z σ1 hz => ?_
      obtain ⟨x, rfl, eq1, hx, hs⟩ := Qi_s hz
      subst hx
      refine ⟨eq1, ?_⟩
      simp only [sW_eq eq1]
      rw [hs]
      have ha1 := (t ((tyAt m a).1 + k)).toNat_lt
      have hb1 := (t ((tyAt m b).1 + k)).toNat_lt
      refine pk_eq (t ((tyAt m a).1 + k)).toNat (t ((tyAt m b).1 + k)).toNat (fun z => ?_) (fun z => ?_) (ha := by omega) (hb := by omega)
      · rw [nI_1]
        refine x_same33 hX ha hb he hg hP r (k + 1) (by omega) fun j h => ?_
        by_cases y : j = k
        · rw [y]
          exact UInt8.toNat_inj.mp z
        · exact hj j (by omega)
      · refine ⟨rfl, ?_⟩
        have : sameT t m a b = false := by
          cases hh : sameT t m a b with
          | false => rfl
          | true =>
            unfold sameT at hh
            rw [Bool.and_eq_true, Bool.and_eq_true, List.all_eq_true] at hh
            have := hh.2 k (List.mem_range.mpr (by omega))
            rw [decide_eq_true_iff] at this
            exact absurd (congrArg UInt8.toNat this) z
        rw [this] at hP
        exact hP
theorem x_same {a b : Nat} (hX : SX t n m σ) (ha : a < (mdT m).length) (hb : b < (mdT m).length) {P : Int32 → fkS → Prop} (hP : P (b2i (sameT t m a b)) σ) : Di (d + 1) 116 [.ref 3, .int (nI a), .int (nI b)] σ P := by
  have l1 : (mdT m).length ≤ 60 := hX.1.1.1
  obtain ⟨f1, -, -, f4⟩ := hX.1.2.1.1 _ (List.mem_of_getElem? (tyAt_get ha))
  obtain ⟨g1, -, -, g4⟩ := hX.1.2.1.1 _ (List.mem_of_getElem? (tyAt_get hb))
  unfold isT at f4 g4
  have no : ¬ ((tyAt m a).2.1 = (tyAt m b).2.1 ∧ (tyAt m a).2.2 = (tyAt m b).2.2) → P 0 σ := fun z => by
    have : sameT t m a b = false := by
      cases hh : sameT t m a b with
      | false => rfl
      | true =>
        unfold sameT at hh
        rw [Bool.and_eq_true, Bool.and_eq_true, decide_eq_true_iff, decide_eq_true_iff] at hh
        exact absurd hh.1 z
    rw [this] at hP
    exact hP
  refine S_ModuleRows_sameTypes (Q := Qi _) ((c_argsOf hX.1 hX.2.1 ha).mono fun z σ1 hz => ?_)
  obtain ⟨x, rfl, eq1, hx, hs⟩ := Qi_s hz
  subst hx
  refine ⟨eq1, ?_⟩
  simp only [sW_eq eq1]
  rw [hs]
  refine (c_argsOf hX.1 hX.2.1 hb).mono fun z σ1 hz => ?_
  obtain ⟨x, rfl, eq1, hx, hs⟩ := Qi_s hz
  subst hx
  refine ⟨eq1, ?_⟩
  simp only [sW_eq eq1]
  rw [hs]
  refine And.comm.mp (pk_eq (tyAt m a).2.1 (tyAt m b).2.1 (fun h1 => ?_) fun h1 => ⟨rfl, no fun w => h1 w.1⟩)
  refine (c_givenBy hX.1 hX.2.1 ha).mono fun z σ1 hz => ?_
  obtain ⟨x, rfl, eq1, hx, hs⟩ := Qi_s hz
  subst hx
  refine ⟨eq1, ?_⟩
  simp only [sW_eq eq1]
  rw [hs]
  refine (c_givenBy hX.1 hX.2.1 hb).mono fun z σ1 hz => ?_
  obtain ⟨x, rfl, eq1, hx, hs⟩ := Qi_s hz
  subst hx
  refine ⟨eq1, ?_⟩
  simp only [sW_eq eq1]
  rw [hs]
  refine pk_eq (tyAt m a).2.2 (tyAt m b).2.2 (fun h2 => ?_) fun h2 => ⟨rfl, no fun w => h2 w.2⟩
  exact x_same33 hX ha hb h1 h2 hP (tyAt m a).2.1 0 (Nat.zero_add _) fun j hj => absurd hj (Nat.not_lt_zero j)
/-- a CALL by the TABLE -/
theorem PX.ci {ty : Nat} {c : Int64} {r : List Int64} (hX : SX t n m σ) (hty : ty < (mdT m).length) (htb : tbN m ≤ 100) (hfl : f < (mdU m).length) (h : PX m ((f, i, L, c :: r) :: fs, [], e, tk, 0, sp) σ) (hfs : fs.length + 1 ≤ 64) (hl : (fl ((f, i, L, c :: r) :: fs)).length + 50 ≤ 24000) (hA : ∀ g, g < (mdU m).length → sameT t m ty (fnTy m g) = true → agN m g ≤ r.length)
    (hQ : ∀ σ', σ'.2.2 = σ.2.2 → Fr sCt σ σ' → PX m (if tbN m ≤ lo32 c then ((f, i, L, c :: r) :: fs, [], e, tk, 5, sp) else if atTb m (lo32 c) < 0 then ((f, i, L, c :: r) :: fs, [], e, tk, 6, sp) else if sameT t m ty (fnTy m (atTb m (lo32 c)).toNatClampNeg) = false then ((f, i, L, c :: r) :: fs, [], e, tk, 7, sp) else aEn m (atTb m (lo32 c)).toNatClampNeg ((f, i, L, r) :: fs, [], e, tk, 0, sp)) σ' → Q σ') : Dv (d + 3) 115 [.ref 56, .int (nI ty)] σ Q := by
  have hox := h.ox
  obtain ⟨t1, t2, t3, t4⟩ := id h
  have t2 : σ.1 56 14 = nI tk := t2
  rw [List.append_nil] at hox
  have hlo : lo32 c < 2 ^ 32 := Nat.mod_lt _ (by decide)
  have e56 := hX.2.2.2.1
  obtain ⟨-, -, -, -, -, k6, k59⟩ := id hX
  have trp : ∀ {σ1 : fkS} {tr : Nat}, tr ≠ 0 → Fr sOp σ σ1 → PX m ((f, i, L, c :: r) :: fs, [], e, tk, tr, sp) (sI σ1 56 15 (nI tr)) := fun {σ1 tr} ht f1 => ⟨(t1.fo f1).fr (S := fun c j => Nat.beq c 56 && Nat.beq j 15) (Fr.rf.sI rfl) (fun _ => rfl) (fun _ => rfl) rfl, (f1 _ _ rfl).1.trans t2, sI_ss, fun w => absurd w ht⟩
  refine S_Machine_callIndirect (Q := Qv _) e56 (x_pop hox fun σ1 e1 f1 o1 => ?_)
  simp only [sW_eq e1]
  have q6 : σ1.1 56 6 = nI (tbN m) := (f1 _ _ rfl).1.trans k6
  have q59 : ∀ k, k < 100 → σ1.1 59 k = atTb m k := fun k hk => (f1 _ _ rfl).1.trans (k59 k hk)
  have hX1 := hX.fo f1
  rw [and32, q6, nI_l (by omega), lg_lt, pk_lLT (by omega) (by omega)]
  by_cases z : tbN m ≤ lo32 c
  · rw [if_pos z] at hQ
    exact ⟨fun y => by omega, fun _ => ⟨e1, hQ _ e1 ((f1.mono fun _ _ => sOp_ct).sI rfl) (trp (by decide) f1)⟩⟩
  rw [if_neg z] at hQ
  refine ⟨fun _ => ?_, fun y => by omega⟩
  rw [lN_i, nI_clamp (n := lo32 c) (by omega), q59 _ (by omega)]
  refine ⟨vp_in_nI (by omega) (by decide), ?_⟩
  rcases tb_at hX.1 (lo32 c) with w | ⟨g, w1, w2⟩
  · rw [w] at hQ ⊢
    rw [if_pos (by decide)] at hQ
    exact ⟨fun y => absurd y (by decide), fun _ => ⟨e1, hQ _ e1 ((f1.mono fun _ _ => sOp_ct).sI rfl) (trp (by decide) f1)⟩⟩
  · obtain ⟨l1, l2, l3, l4, l5, l6, l7⟩ := hX.lens w1
    rw [w2, if_neg (nI_pos (by omega)), nI_clamp (n := g) (by omega)] at hQ
    rw [w2, nI_clamp (n := g) (by omega)]
    refine ⟨fun _ => ⟨by decide, by decide, vp_in_nI (by omega) (by decide), ?_⟩, fun y => absurd (nI_pos' (by omega)) y⟩
    rw [hX1.ty w1]
    refine x_same hX1 hty l5 ?_
    simp only [sW_eq e1]
    cases hsm : sameT t m ty (fnTy m g) with
    | false =>
      rw [if_pos hsm] at hQ
      exact ⟨fun y => absurd rfl y, fun _ => ⟨e1, hQ _ e1 ((f1.mono fun _ _ => sOp_ct).sI rfl) (trp (by decide) f1)⟩⟩
    | true =>
      rw [if_neg (by rw [hsm]; decide)] at hQ
      refine ⟨fun _ => ?_, fun y => absurd y (by decide)⟩
      have p1 : PX m ((f, i, L, r) :: fs, [], e, tk, 0, sp) σ1 := h.op f1 (by rw [List.append_nil]; exact o1) rfl
      have k11 : σ1.1 56 11 = nI i := (p1.2.2.2 rfl).2.2.2.1
      rw [k11]
      have hl2 : (fl ((f, i, L, c :: r) :: fs)).length = (fl ((f, i, L, r) :: fs)).length + 1 := rfl
      refine PX.en (fs := (f, i, L, r) :: fs) (R := []) hX1 w1 p1 (by exact hfs) ?_ (by rw [List.append_nil]; omega) ⟨fun y => (by cases y), fun x ys hxy => ?_⟩ fun σ2 e2 f2 p2 => ?_
      · rw [List.append_nil]
        have := hA g w1 hsm
        show agN m g ≤ (r ++ (L.reverse ++ fl fs)).length
        rw [List.length_append]
        omega
      · cases hxy
        exact ⟨rfl, hA g w1 hsm⟩
      · rw [sW_eq (e2.trans e1)]
        exact ⟨e2.trans e1, hQ σ2 (e2.trans e1) ((f1.mono fun _ _ => sOp_ct).tr f2) p2⟩
/-- a 5 or an 11 -/
theorem PX.nx {i2 : Nat} (h : PX m ((f, i, L, S) :: fs, R, e, tk, 0, sp) σ) : PX m ((f, i2, L, S) :: fs, R, e, tk, 0, sp) (sI σ 56 11 (nI i2)) := by
  obtain ⟨t1, t2, t3, t4⟩ := h
  obtain ⟨p6, p7, p8, p9, p10, p11⟩ := t4 rfl
  exact ⟨t1.fr (S := fun c j => Nat.beq c 56 && Nat.beq j 11) (Fr.rf.sI rfl) (fun _ => rfl) (fun _ => rfl) rfl, t2, t3, fun _ => ⟨p6.fr (S := fun c j => Nat.beq c 56 && Nat.beq j 11) (Fr.rf.sI rfl) rfl fun _ => rfl, (show frX σ ((f, i2, L, S) :: fs) from p7).eq fun _ _ => rfl, p8, sI_ss, p10, p11⟩⟩
end CTLX3
