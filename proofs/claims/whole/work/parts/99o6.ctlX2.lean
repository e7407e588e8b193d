/-! A CALL ends, a label is gone to: the class -/
section CTLX2
variable {t : Nat → UInt8} {n d f g i j k l tk : Nat} {m : Md} {σ σ' : fkS} {L S R A B : List Int64} {e : Env} {sp : Bool} {fs : List Fm} {v w : Int64} {Q : fkS → Prop}
theorem oX.cut (h : oX σ (A ++ B)) (f : Fr sOp σ σ') (h8 : σ'.1 56 8 = nI B.length) (h60 : ∀ k, k < B.length → σ'.2.1 60 k = σ.2.1 60 k) : oX σ' B := by
  have hl := h.2.1
  rw [List.length_append] at hl
  exact ⟨h8, by omega, h.2.2.tl.eq h60⟩
theorem x_leave65 {σ0 : fkS} {y : Fm} {tr : List Int64} (hX : SX t n m σ) (e0 : σ.2.2 = σ0.2.2) (hfs : fs.length ≤ 63) (h10 : σ.1 56 10 = nI (fs.length + 1)) (hr2 : σ.1 61 (3 * fs.length + 2) = nI (backI fs)) (hfr : frX σ fs) (hy : ∀ y ys, fs = y :: ys → y.1 < (mdU m).length ∧ y.2.2.1.length = loN m y.1) (hQ : ∀ σ', σ'.2.2 = σ0.2.2 → Fr (fun c j => Nat.beq c 56 && Nat.ble 10 j && Nat.ble j 13) σ σ' → topX σ' fs → Q σ') : Wq 110 (d + 1) 65 [some (.ref 56), some (.int (nI (3 * fs.length))), none, none, none, none] [] σ (Qv fun σ' => σ'.2.2 = σ0.2.2 ∧ Q σ') := by
  have e32 : nI (3 * fs.length) + (2 : Int32) = nI (3 * fs.length + 2) := by rw [show (2 : Int32) = nI 2 from rfl, nI_add]
  refine S_Machine_leave_65 hX.2.2.2.1 hX.2.2.2.2.1 ?_
  rw [e32, h10, nI_clamp (n := 3 * fs.length + 2) (by omega), hr2, nI_pred]
  refine ⟨vp_in_nI (by omega) (by decide), pk_le fs.length 0 (fun z => ?_) fun z => ?_⟩
  · have hf0 : fs = [] := List.length_eq_zero_iff.mp (by omega)
    subst hf0
    exact ⟨e0, hQ _ e0 ((Fr.rf.sI rfl).sI rfl) sI_ss⟩
  · cases fs with
    | nil => exact absurd z (by decide)
    | cons y ys =>
      obtain ⟨y1, y2⟩ := hy y ys rfl
      obtain ⟨l1, l2, l3, l4, l5, l6, l7⟩ := hX.lens y1
      obtain ⟨q1, q2, q3, q4⟩ := hfr
      have hlen : (y :: ys).length = ys.length + 1 := rfl
      rw [hlen] at hfs ⊢
      have e33 : nI (3 * (ys.length + 1)) - (3 : Int32) = nI (3 * ys.length) := by rw [show (3 : Int32) = nI 3 from rfl, nI_sub (by omega)]; congr 1
      have e34 : nI (3 * (ys.length + 1)) - (2 : Int32) = nI (3 * ys.length + 1) := by rw [show (2 : Int32) = nI 2 from rfl, nI_sub (by omega)]; congr 1
      rw [e33, e34, nI_clamp (n := 3 * ys.length) (by omega), nI_clamp (n := 3 * ys.length + 1) (by omega), q1, q2, nI_clamp (n := y.1) (by omega), hX.ty y1]
      refine ⟨vp_in_nI (by omega) (by decide), vp_in_nI (by omega) (by decide), by decide, by decide, vp_in_nI (by omega) (by decide), ?_⟩
      have f3 : Fr (fun c j => Nat.beq c 56 && Nat.ble 10 j && Nat.ble j 13) σ (sI (sI (sI σ 56 11 (nI (backI (y :: ys)))) 56 10 (nI (ys.length + 1))) 56 12 (nI (fl ys).length)) := ((Fr.rf.sI rfl).sI rfl).sI rfl
      have a10 : (sI (sI (sI σ 56 11 (nI (backI (y :: ys)))) 56 10 (nI (ys.length + 1))) 56 12 (nI (fl ys).length)).1 56 10 = nI (ys.length + 1) := rfl
      have a11 : (sI (sI (sI σ 56 11 (nI (backI (y :: ys)))) 56 10 (nI (ys.length + 1))) 56 12 (nI (fl ys).length)).1 56 11 = nI y.2.1 := rfl
      have a12 : (sI (sI (sI σ 56 11 (nI (backI (y :: ys)))) 56 10 (nI (ys.length + 1))) 56 12 (nI (fl ys).length)).1 56 12 = nI (fl ys).length := rfl
      have ae : (sI (sI (sI σ 56 11 (nI (backI (y :: ys)))) 56 10 (nI (ys.length + 1))) 56 12 (nI (fl ys).length)).2.2 = σ.2.2 := rfl
      generalize sI (sI (sI σ 56 11 (nI (backI (y :: ys)))) 56 10 (nI (ys.length + 1))) 56 12 (nI (fl ys).length) = σ2 at f3 a10 a11 a12 ae ⊢
      have hct : ∀ c j, (fun c j => Nat.beq c 56 && Nat.ble 10 j && Nat.ble j 13) c j = true → sCt c j = true := fun c j h => by
        unfold sCt
        simp only [Bool.or_eq_true, Bool.and_eq_true, Nat.beq_eq, Nat.ble_eq] at h ⊢
        omega
      have hX2 : SX t n m σ2 := hX.ct (f3.mono hct)
      refine (hX2.args y1).mono fun z σ3 hz => ?_
      obtain ⟨r, rfl, eq1, hr, hs⟩ := Qi_s hz
      subst hr
      refine ⟨eq1, ?_⟩
      simp only [sW_eq (show σ3.2.2 = σ.2.2 from eq1.trans ae)]
      rw [hs]
      have e18 : σ2.1 18 y.1 = nI (lcN m y.1) := (hX2.fi y1).2.2
      refine ⟨by decide, vp_in_nI (by omega) (by decide), ae.trans e0, hQ _ (ae.trans e0) (f3.sI rfl) ⟨a10, a11, a12, ?_⟩⟩
      rw [sI_ss, e18, nI_add, nI_add, y2, loN_eq, Nat.add_assoc]
/-- the innermost CALL ends -/
theorem PX.lv (hX : SX t n m σ) (hg : f < (mdU m).length) (h : PX m ((f, i, L, S) :: fs, [], e, tk, 0, sp) σ) (hfs : fs.length ≤ 63) (hv : gvF m f ≠ 0 → ∃ v r, S = v :: r) (hy : ∀ y ys, fs = y :: ys → y.1 < (mdU m).length ∧ y.2.2.1.length = loN m y.1) (hQ : ∀ σ', σ'.2.2 = σ.2.2 → Fr sCt σ σ' → PX m (aLv m ((f, i, L, S) :: fs, [], e, tk, 0, sp)) σ' → Q σ') : Dv (d + 2) 110 [.ref 56] σ Q := by
  obtain ⟨l1, l2, l3, l4, l5, l6, l7⟩ := hX.lens hg
  have hox := h.ox
  obtain ⟨t1, t2, t3, t4⟩ := id h
  obtain ⟨-, hfr, htop⟩ := t4 rfl
  obtain ⟨q1, q2, q3, q4⟩ : frX σ ((f, i, L, S) :: fs) := hfr
  obtain ⟨u1, u2, u3, u4⟩ : topX σ ((f, i, L, S) :: fs) := htop
  have q1 : σ.1 61 (3 * fs.length) = nI f := q1
  have t2 : σ.1 56 14 = nI tk := t2
  have t3 : σ.1 56 15 = nI 0 := t3
  rw [List.append_nil] at hox
  have e30 : (3 : Int32) * nI fs.length = nI (3 * fs.length) := by rw [show (3 : Int32) = nI 3 from rfl, nI_mul]
  have hlf : gvF m f ≠ 0 → (fl fs).length < 24000 := fun z => by
    obtain ⟨v, r, rfl⟩ := hv z
    have hl := hox.2.1
    rw [List.length_append, List.length_append, List.length_cons] at hl
    omega
  -- from where the CALL's value is at hand
  have go : ∀ (x : List Int64) (s0 : Int64) (σ1 : fkS) (B : List Int64), (gvF m f = 0 → x = []) → (gvF m f ≠ 0 → x = [s0]) → (if gvF m f = 0 then [] else S.take 1) = x → σ1.2.2 = σ.2.2 → Fr sOp σ σ1 → oX σ1 (B ++ fl fs) → Wq 110 (d + 2) 43 [some (.ref 56), some (.int (nI (3 * fs.length))), some (.int (nI (gvF m f))), none, none, none] [.long s0] σ1 (Qv fun σ' => σ'.2.2 = σ.2.2 ∧ Q σ') := fun x s0 σ1 B x0 x1 xe e1 f1 o1 => by
    have r1 : σ1.1 61 (3 * fs.length + 1) = nI (fl fs).length := (f1 _ _ rfl).1.trans q2
    have hlen := o1.2.1
    rw [List.length_append] at hlen
    refine S_Machine_leave_43 ?_
    rw [nI_1, nI_clamp (n := 3 * fs.length + 1) (by omega), r1]
    refine ⟨vp_in_nI (by omega) (by decide), ?_⟩
    have o2 : oX (sI σ1 56 8 (nI (fl fs).length)) (fl fs) := o1.cut (Fr.rf.sI rfl) sI_ss fun _ _ => rfl
    have f2 : Fr sOp σ (sI σ1 56 8 (nI (fl fs).length)) := f1.sI rfl
    have e2 : (sI σ1 56 8 (nI (fl fs).length)).2.2 = σ.2.2 := e1
    generalize sI σ1 56 8 (nI (fl fs).length) = σ2 at o2 f2 e2 ⊢
    have fin : ∀ σ3, σ3.2.2 = σ.2.2 → Fr sOp σ σ3 → oX σ3 (x ++ fl fs) → Wq 110 (d + 1 + 1) 65 [some (.ref 56), some (.int (nI (3 * fs.length))), none, none, none, none] [] σ3 (Qv fun σ' => σ'.2.2 = σ.2.2 ∧ Q σ') := fun σ3 e3 f3 o3 => by
      refine x_leave65 (y := (0, 0, [], [])) (tr := []) (hX.fo f3) e3 hfs ((f3 _ _ rfl).1.trans u1) ((f3 _ _ rfl).1.trans q3) (q4.fr f3 fun _ => rfl) hy fun σ4 e4 f4 g4 => ?_
      have ft : Fr sCt σ σ4 := (f3.mono fun _ _ => sOp_ct).tr (f4.mono fun c j h => by
        unfold sCt
        simp only [Bool.or_eq_true, Bool.and_eq_true, Nat.beq_eq, Nat.ble_eq] at h ⊢
        omega)
      refine hQ σ4 e4 ft ?_
      have k14 : σ4.1 56 14 = nI tk := (f4 _ _ rfl).1.trans ((f3 _ _ rfl).1.trans t2)
      have k15 : σ4.1 56 15 = nI 0 := (f4 _ _ rfl).1.trans ((f3 _ _ rfl).1.trans t3)
      have o4 : oX σ4 (x ++ fl fs) := o3.fr f4 rfl fun _ => rfl
      have hfr4 : frX σ4 fs := (q4.fr f3 fun _ => rfl).fr f4 fun _ => rfl
      cases fs with
      | nil =>
        refine ⟨t1.ct ft, k14, k15, fun _ => ⟨?_, trivial, g4⟩⟩
        show oX σ4 ([] ++ ((if gvF m f = 0 then [] else S.take 1) ++ []))
        rw [xe]
        exact o4
      | cons y ys =>
        obtain ⟨f2, i2, L2, S2⟩ := y
        refine ⟨t1.ct ft, k14, k15, fun _ => ⟨?_, ?_, ?_⟩⟩
        · show oX σ4 ((((if gvF m f = 0 then [] else S.take 1) ++ S2) ++ (L2.reverse ++ fl ys)) ++ [])
          rw [xe, List.append_nil, List.append_assoc]
          exact o4
        · exact hfr4
        · exact g4
    by_cases z : gvF m f = 0
    · rw [x0 z] at fin
      exact ⟨fun _ => fin σ2 e2 f2 o2, fun y => absurd (by rw [z]; rfl) y⟩
    · rw [x1 z] at fin
      refine ⟨fun y => absurd ((nI_eq (b := 0) (by omega) (by decide)).mp y) z, fun _ => x_push o2 (hlf z) fun σ3 e3 f3 o3 => ?_⟩
      rw [sW_eq (e3.trans (e2.trans e1.symm))]
      exact fin σ3 (e3.trans e2) (f2.tr f3) o3
  refine S_Machine_leave (Q := Qv _) hX.2.2.2.1 ?_
  rw [u1, nI_pred, e30, nI_clamp (n := 3 * fs.length) (by omega), q1, nI_clamp (n := f) (by omega), hX.ty hg]
  refine ⟨by decide, by decide, vp_in_nI (by omega) (by decide), vp_in_nI (by omega) (by decide), ?_⟩
  refine (hX.gvs hg).mono fun z σ1 hz => ?_
  obtain ⟨r, rfl, eq1, hr, hs⟩ := Qi_s hz
  subst hr
  refine ⟨eq1, ?_⟩
  simp only [sW_eq eq1]
  rw [hs]
  by_cases z : gvF m f = 0
  · refine ⟨fun y => absurd (by rw [z]; rfl) y, fun _ => ?_⟩
    have := go [] 0 σ (S ++ L.reverse) (fun _ => rfl) (fun y => absurd z y) (if_pos z) rfl Fr.rf (by rw [List.append_assoc]; exact hox)
    exact this
  · obtain ⟨v, r, rfl⟩ := hv z
    refine ⟨fun _ => ?_, fun y => absurd ((nI_eq (b := 0) (by omega) (by decide)).mp y) z⟩
    refine x_pop hox fun σ2 e2 f2 o2 => ?_
    rw [sW_eq e2]
    exact go [v] v σ2 (r ++ L.reverse) (fun y => absurd y z) (fun _ => rfl) (if_neg z) e2 f2 (by rw [List.append_assoc]; exact o2)
/-- to a label -/
theorem PX.br {C : List In} {eE : Nat} {b : Bk} (hX : SX t n m σ) (hl : l < 4000) (hr : rLab C eE b l (rnS swM σ)) (h : PX m ((f, i, L, S) :: fs, [], e, tk, 0, sp) σ) (hF : bkF b ≤ S.length) (hc1 : bCar C b ≤ 1) (hc : bCar C b ≠ 0 → ∃ v r, S = v :: r) (hpb : bCar C b ≠ 0 → bkF b + 1 ≤ S.length) (hQ : ∀ σ', σ'.2.2 = σ.2.2 → Fr sCt σ σ' → PX m ((f, bTgt C eE b, L, (if bCar C b = 0 then [] else S.take 1) ++ S.drop (S.length - bkF b)) :: fs, [], e, tk, 0, sp) σ' → Q σ') : Dv (d + 2) 114 [.ref 56, .int (nI l)] σ Q := by
  have hox := h.ox
  obtain ⟨t1, t2, t3, t4⟩ := id h
  obtain ⟨-, hfr, htop⟩ := t4 rfl
  obtain ⟨u1, u2, u3, u4⟩ : topX σ ((f, i, L, S) :: fs) := htop
  have u4 : σ.1 56 13 = nI ((fl fs).length + L.length) := u4
  rw [List.append_nil] at hox
  obtain ⟨r0, r1, r2⟩ := hr
  have r0 : σ.1 23 (3 * l) = nI (bTgt C eE b) := r0
  have r1 : σ.1 23 (3 * l + 1) = nI (bkF b) := r1
  have r2 : σ.1 23 (3 * l + 2) = nI (bCar C b) := r2
  have e56 := hX.2.2.2.2.1
  have e30 : (3 : Int32) * nI l = nI (3 * l) := by rw [show (3 : Int32) = nI 3 from rfl, nI_mul]
  have e32 : nI (3 * l) + (2 : Int32) = nI (3 * l + 2) := by rw [show (2 : Int32) = nI 2 from rfl, nI_add]
  have hlA : (S ++ (L.reverse ++ fl fs)).length ≤ 24000 := hox.2.1
  have hlA2 : S.length + (L.length + (fl fs).length) ≤ 24000 := by
    rw [List.length_append, List.length_append, List.length_reverse] at hlA
    exact hlA
  have hBl : (S.drop (S.length - bkF b) ++ (L.reverse ++ fl fs)).length = (fl fs).length + L.length + bkF b := by
    rw [List.length_append, List.length_drop, List.length_append, List.length_reverse]
    omega
  have hspl : S ++ (L.reverse ++ fl fs) = S.take (S.length - bkF b) ++ (S.drop (S.length - bkF b) ++ (L.reverse ++ fl fs)) := by
    rw [← List.append_assoc (S.take _), List.take_append_drop]
  -- from where the label's value is at hand
  have go : ∀ (x : List Int64) (s0 : Int64) (σ1 : fkS) (P : List Int64), (bCar C b = 0 → x = []) → (bCar C b ≠ 0 → x = [s0]) → (if bCar C b = 0 then [] else S.take 1) = x → σ1.2.2 = σ.2.2 → Fr sOp σ σ1 → oX σ1 (P ++ (S.drop (S.length - bkF b) ++ (L.reverse ++ fl fs))) → Wq 114 (d + 2) 35 [some (.ref 56), some (.int (nI l)), some (.int (nI (bCar C b))), none, none] [.long s0] σ1 (Qv fun σ' => σ'.2.2 = σ.2.2 ∧ Q σ') := fun x s0 σ1 P x0 x1 xe e1 f1 o1 => by
    refine S_Machine_branch_35 (e1 ▸ e56 : σ1.2.2 56 1 = 16) ?_
    have k1 : σ1.1 23 (3 * l + 1) = nI (bkF b) := (f1 _ _ rfl).1.trans r1
    have k13 : σ1.1 56 13 = nI ((fl fs).length + L.length) := (f1 _ _ rfl).1.trans u4
    rw [e30, nI_1, nI_clamp (n := 3 * l + 1) (by omega), nI_clamp (n := 3 * l) (by omega), k1, k13, nI_add]
    refine ⟨by decide, vp_in_nI (by omega) (by decide), ?_⟩
    have o2 : oX (sI σ1 56 8 (nI ((fl fs).length + L.length + bkF b))) (S.drop (S.length - bkF b) ++ (L.reverse ++ fl fs)) := o1.cut (Fr.rf.sI rfl) (by rw [hBl]; exact sI_ss) fun _ _ => rfl
    have f2 : Fr sOp σ (sI σ1 56 8 (nI ((fl fs).length + L.length + bkF b))) := f1.sI rfl
    have e2 : (sI σ1 56 8 (nI ((fl fs).length + L.length + bkF b))).2.2 = σ.2.2 := e1
    generalize sI σ1 56 8 (nI ((fl fs).length + L.length + bkF b)) = σ2 at o2 f2 e2 ⊢
    have fin : ∀ (σ3 : fkS) (v : Int32), v = nI (bTgt C eE b) → σ3.2.2 = σ.2.2 → Fr sOp σ σ3 → oX σ3 (x ++ (S.drop (S.length - bkF b) ++ (L.reverse ++ fl fs))) → (sI σ3 56 11 v).2.2 = σ.2.2 ∧ Q (sI σ3 56 11 v) := fun σ3 v hv e3 f3 o3 => by
      rw [hv]
      have ft : Fr sCt σ (sI σ3 56 11 (nI (bTgt C eE b))) := (f3.mono fun _ _ => sOp_ct).sI rfl
      have p3 : PX m ((f, i, L, x ++ S.drop (S.length - bkF b)) :: fs, [], e, tk, 0, sp) σ3 := h.op f3 (by rw [List.append_nil, List.append_assoc]; exact o3) rfl
      obtain ⟨p1, p2, p4, p5⟩ := p3
      obtain ⟨p6, p7, p8, p9, p10, p11⟩ := p5 rfl
      refine ⟨e3, hQ _ e3 ft ⟨t1.ct ft, p2, p4, fun _ => ⟨?_, ?_, p8, sI_ss, p10, p11⟩⟩⟩
      · rw [xe]
        exact p6.fr (S := fun c j => Nat.beq c 56 && Nat.beq j 11) (Fr.rf.sI rfl) rfl fun _ => rfl
      · exact (show frX σ3 ((f, bTgt C eE b, L, S) :: fs) from p7).eq fun _ _ => rfl
    by_cases z : bCar C b = 0
    · rw [x0 z] at fin
      exact ⟨fun _ => ⟨by decide, vp_in_nI (by omega) (by decide), fin σ2 _ ((f1 _ _ rfl).1.trans r0) e2 f2 o2⟩, fun y => absurd (by rw [z]; rfl) y⟩
    · rw [x1 z] at fin
      have := hpb z
      refine ⟨fun y => absurd ((nI_eq (b := 0) (by omega) (by decide)).mp y) z, fun _ => x_push o2 (by rw [hBl]; omega) fun σ3 e3 f3 o3 => ?_⟩
      simp only [sW_eq (e3.trans (e2.trans e1.symm))]
      exact ⟨by decide, vp_in_nI (by omega) (by decide), fin σ3 _ (((f2.tr f3) _ _ rfl).1.trans r0) (e3.trans e2) (f2.tr f3) o3⟩
  refine S_Machine_branch (Q := Qv _) e56 ?_
  rw [e30, e32, nI_clamp (n := 3 * l + 2) (by omega), r2]
  refine ⟨by decide, vp_in_nI (by omega) (by decide), ?_⟩
  by_cases z : bCar C b = 0
  · refine ⟨fun _ => ⟨fun _ => ?_, fun y => absurd rfl y⟩, fun y => absurd ((nI_eq (b := 1) (by omega) (by decide)).mp y) (by omega)⟩
    have := go [] 0 σ (S.take (S.length - bkF b)) (fun _ => rfl) (fun y => absurd z y) (if_pos z) rfl Fr.rf (hspl ▸ hox)
    rw [z] at this
    exact this
  · have c1 : bCar C b = 1 := by omega
    refine ⟨fun y => absurd (by rw [c1]; rfl) y, fun _ => ⟨fun y => absurd y (by decide), fun _ => ?_⟩⟩
    obtain ⟨v, r, rfl⟩ := hc z
    have := hpb z
    refine x_pop hox fun σ2 e2 f2 o2 => ?_
    rw [sW_eq e2]
    have hsp2 : r ++ (L.reverse ++ fl fs) = r.take (r.length - bkF b) ++ ((v :: r).drop ((v :: r).length - bkF b) ++ (L.reverse ++ fl fs)) := by
      rw [List.length_cons] at this
      rw [← List.append_assoc (r.take _), show (v :: r).length - bkF b = (r.length - bkF b) + 1 by rw [List.length_cons]; omega, List.drop_succ_cons, List.take_append_drop]
    have := go [v] v σ2 (r.take (r.length - bkF b)) (fun y => absurd y z) (fun _ => rfl) (if_neg z) e2 f2 (hsp2 ▸ o2)
    rw [c1] at this
    exact this
end CTLX2
