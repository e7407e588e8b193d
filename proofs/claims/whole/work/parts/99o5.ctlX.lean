/-! CALLS and branches of a run, the class -/
def sCt (c j : Nat) : Bool := (Nat.beq c 56 && Nat.ble 8 j && Nat.ble j 15) || Nat.beq c 60 || Nat.beq c 61
theorem sCt_run {c j : Nat} (h : sCt c j = true) : sRun c j = true := by
  unfold sCt at h
  unfold sRun
  simp only [Bool.or_eq_true, Bool.and_eq_true, Nat.beq_eq, Nat.ble_eq] at h ⊢
  omega
theorem sOp_ct {c j : Nat} (h : sOp c j = true) : sCt c j = true := by
  unfold sOp at h
  unfold sCt
  simp only [Bool.or_eq_true, Bool.and_eq_true, Nat.beq_eq, Nat.ble_eq] at h ⊢
  omega
def agN (m : Md) (g : Nat) : Nat := (tyAt m (fnTy m g)).2.1
def lcN (m : Md) (g : Nat) : Nat := (fiAt m g).1.length
theorem loN_eq (m : Md) (g : Nat) : loN m g = agN m g + lcN m g := rfl
theorem envX.ct {m : Md} {e : Env} {σ σ' : fkS} (h : envX m e σ) (f : Fr sCt σ σ') : envX m e σ' := h.fr f (fun _ => rfl) (fun _ => rfl) rfl
section CTLX
variable {t : Nat → UInt8} {n d f g i j k l tk : Nat} {m : Md} {σ σ' : fkS} {L S R A B : List Int64} {e : Env} {sp : Bool} {fs : List Fm} {v w : Int64} {Q : fkS → Prop}
theorem SX.ct (h : SX t n m σ) (f : Fr sCt σ σ') : SX t n m σ' := h.fr (f.mono fun _ _ => sCt_run)
theorem SX.args (h : SX t n m σ) (hg : g < (mdU m).length) : Di d 86 [.ref 3, .int (nI (fnTy m g))] σ (fun r σ' => r = nI (agN m g) ∧ σ' = σ) := c_argsOf h.1 h.2.1 (h.1.fn hg).2.1
theorem SX.gvs (h : SX t n m σ) (hg : g < (mdU m).length) : Di d 68 [.ref 3, .int (nI (fnTy m g))] σ (fun r σ' => r = nI (gvF m g) ∧ σ' = σ) := c_givenBy h.1 h.2.1 (h.1.fn hg).2.1
theorem SX.lens (h : SX t n m σ) (hg : g < (mdU m).length) : (mdU m).length ≤ 60 ∧ agN m g ≤ 60 ∧ lcN m g ≤ 50 ∧ gvF m g < 200 ∧ fnTy m g < (mdT m).length ∧ fiE (fiAt m g) < 4000 ∧ fiS (fiAt m g) ≤ fiE (fiAt m g) := by
  have hf : okFn t n m g := ⟨h.1, hg⟩
  have hE := hf.fF
  have h4 := h.1.2.2.2.2.2.2.1
  have hgv := hf.gv
  have := hE.2.1
  refine ⟨h.1.1.2.1, (h.1.fn hg).2.2.1, (hf.F.2.2.2 _ (List.mem_of_getElem? (fiAt_get hf.fl))).1, ?_, (h.1.fn hg).2.1, by omega, hE.1⟩
  unfold isT0 isT at hgv
  show (tyAt m (fnTy m g)).2.2 < 200
  omega
/-- zeros for a CALL's locals -/
theorem w_ent93 {σ0 : fkS} (hX : SX t n m σ0) (hg : g < (mdU m).length) (hl : A.length + lcN m g ≤ 24000) (hQ : ∀ σ', σ'.2.2 = σ0.2.2 → Fr sCt σ0 σ' → oX σ' (List.replicate (lcN m g) 0 ++ A) → σ'.1 56 10 = σ0.1 56 10 → σ'.1 56 12 = σ0.1 56 12 → σ'.1 56 14 = σ0.1 56 14 → σ'.1 56 15 = σ0.1 56 15 → σ'.1 56 11 = nI (fiS (fiAt m g)) → σ'.1 56 13 = nI (A.length + lcN m g) → (∀ k, σ'.1 61 k = σ0.1 61 k) → Q σ') :
    ∀ (r k : Nat) (σ : fkS), k + r = lcN m g → σ.2.2 = σ0.2.2 → Fr sOp σ0 σ → oX σ (List.replicate k 0 ++ A) → Wq 107 (d + 1) 93 [some (.ref 56), some (.int (nI g)), none, none, none, some (.int (nI k))] [] σ (Qv fun σ' => σ'.2.2 = σ0.2.2 ∧ Q σ')
  | r, k, σ, hk, e0, f0, ho => by
    obtain ⟨l1, l2, l3, l4, l5, l6, l7⟩ := hX.lens hg
    have hfi := (hX.fo f0).fi hg
    have e18 : σ.1 18 g = nI (lcN m g) := hfi.2.2
    refine S_Machine_enter_93 (e0 ▸ hX.2.2.2.2.1 : σ.2.2 56 1 = 16) ⟨by decide, vp_in_nI (by omega) (by decide), ?_⟩
    rw [nI_clamp (n := g) (by omega), e18]
    match r with
    | 0 =>
      have hk : k = lcN m g := by omega
      subst hk
      refine pk_le (lcN m g) (lcN m g) (fun _ => ⟨by decide, vp_in_nI (by omega) (by decide), ?_⟩) fun z => absurd z (by omega)
      have hlen : (List.replicate (lcN m g) (0 : Int64) ++ A).length = A.length + lcN m g := by rw [List.length_append, List.length_replicate, Nat.add_comm]
      refine ⟨e0, hQ _ e0 (((f0.mono fun _ _ => sOp_ct).sI rfl).sI rfl) (ho.fr (S := fun c k => Nat.beq c 56 && Nat.ble 9 k) ((Fr.rf.sI rfl).sI rfl) rfl fun _ => rfl) ((f0 _ _ rfl).1) ((f0 _ _ rfl).1) ((f0 _ _ rfl).1) ((f0 _ _ rfl).1) ?_ ?_ fun k => (f0 _ _ rfl).1⟩
      · rw [sI_ss, hfi.1]
      · show σ.1 56 8 = _
        rw [ho.1, hlen]
    | r + 1 =>
      refine pk_le (lcN m g) k (fun z => absurd z (by omega)) fun _ => ?_
      refine x_push ho (by rw [List.length_append, List.length_replicate]; omega) fun σ1 e1 f1 o1 => ?_
      rw [sW_eq e1, nI_1]
      exact w_ent93 hX hg hl hQ r (k + 1) σ1 (by omega) (e1.trans e0) (f0.tr f1) o1
theorem x_enter (hX : SX t n m σ) (hg : g < (mdU m).length) (ho : oX σ A) (hA : agN m g ≤ A.length) (hl : A.length + lcN m g ≤ 24000) (hk : k < 64) (h10 : σ.1 56 10 = nI k) (b : Nat) (hQ : ∀ σ', σ'.2.2 = σ.2.2 → Fr sCt σ σ' → oX σ' (List.replicate (lcN m g) 0 ++ A) → σ'.1 56 10 = nI (k + 1) → σ'.1 56 12 = nI (A.length - agN m g) → σ'.1 56 14 = σ.1 56 14 → σ'.1 56 15 = σ.1 56 15 → σ'.1 56 11 = nI (fiS (fiAt m g)) → σ'.1 56 13 = nI (A.length + lcN m g) → σ'.1 61 (3 * k) = nI g → σ'.1 61 (3 * k + 1) = nI (A.length - agN m g) → σ'.1 61 (3 * k + 2) = nI b → (∀ j, j < 3 * k → σ'.1 61 j = σ.1 61 j) → Q σ') : Dv (d + 2) 107 [.ref 56, .int (nI g), .int (nI b)] σ Q := by
  obtain ⟨l1, l2, l3, l4, l5, l6, l7⟩ := hX.lens hg
  have e30 : (3 : Int32) * nI k = nI (3 * k) := by rw [show (3 : Int32) = nI 3 from rfl, nI_mul]
  have e31 : nI (3 * k) + (1 : Int32) = nI (3 * k + 1) := nI_1 _
  have e32 : nI (3 * k) + (2 : Int32) = nI (3 * k + 2) := by rw [show (2 : Int32) = nI 2 from rfl, nI_add]
  refine S_Machine_enter (Q := Qv _) hX.2.2.2.1 ?_
  rw [h10]
  refine pk_lt k 64 (fun _ => ?_) fun z => by omega
  have h8 := ho.1
  refine ⟨by decide, vp_in_nI (by omega) (by decide), by decide, ?_⟩
  rw [nI_clamp (n := g) (by omega), hX.ty hg, nI_1]
  have hX1 : SX t n m (sI σ 56 10 (nI (k + 1))) := hX.ct (Fr.rf.sI rfl)
  refine (hX1.args hg).mono fun y σ1 hy => ?_
  obtain ⟨r, rfl, eq1, hr, hs⟩ := Qi_s hy
  subst hr
  refine ⟨eq1, ?_⟩
  simp only [sW_eq (show σ1.2.2 = σ.2.2 from eq1)]
  rw [hs]
  rw [e30, e31, e32, h8, nI_sub hA, nI_clamp (n := 3 * k) (by omega), nI_clamp (n := 3 * k + 1) (by omega), nI_clamp (n := 3 * k + 2) (by omega)]
  refine ⟨vp_in_nI (by omega) (by decide), vp_in_nI (by omega) (by decide), vp_in_nI (by omega) (by decide), ?_⟩
  have f9 : Fr sCt σ (sI (sI (sI (sI (sI σ 56 10 (nI (k + 1))) 56 12 (nI (A.length - agN m g))) 61 (3 * k) (nI g)) 61 (3 * k + 1) (nI (A.length - agN m g))) 61 (3 * k + 2) (nI b)) := ((((Fr.rf.sI rfl).sI rfl).sI rfl).sI rfl).sI rfl
  have a1 : (sI (sI (sI (sI (sI σ 56 10 (nI (k + 1))) 56 12 (nI (A.length - agN m g))) 61 (3 * k) (nI g)) 61 (3 * k + 1) (nI (A.length - agN m g))) 61 (3 * k + 2) (nI b)).1 56 10 = nI (k + 1) := rfl
  have a2 : (sI (sI (sI (sI (sI σ 56 10 (nI (k + 1))) 56 12 (nI (A.length - agN m g))) 61 (3 * k) (nI g)) 61 (3 * k + 1) (nI (A.length - agN m g))) 61 (3 * k + 2) (nI b)).1 56 12 = nI (A.length - agN m g) := rfl
  have a3 : ∀ j, (sI (sI (sI (sI (sI σ 56 10 (nI (k + 1))) 56 12 (nI (A.length - agN m g))) 61 (3 * k) (nI g)) 61 (3 * k + 1) (nI (A.length - agN m g))) 61 (3 * k + 2) (nI b)).1 61 j = if j = 3 * k + 2 then nI b else if j = 3 * k + 1 then nI (A.length - agN m g) else if j = 3 * k then nI g else σ.1 61 j := fun j => by
    rw [sI3, sI3, sI3]
    rfl
  have a4 : (sI (sI (sI (sI (sI σ 56 10 (nI (k + 1))) 56 12 (nI (A.length - agN m g))) 61 (3 * k) (nI g)) 61 (3 * k + 1) (nI (A.length - agN m g))) 61 (3 * k + 2) (nI b)).1 56 14 = σ.1 56 14 := rfl
  have a5 : (sI (sI (sI (sI (sI σ 56 10 (nI (k + 1))) 56 12 (nI (A.length - agN m g))) 61 (3 * k) (nI g)) 61 (3 * k + 1) (nI (A.length - agN m g))) 61 (3 * k + 2) (nI b)).1 56 15 = σ.1 56 15 := rfl
  have a6 : oX (sI (sI (sI (sI (sI σ 56 10 (nI (k + 1))) 56 12 (nI (A.length - agN m g))) 61 (3 * k) (nI g)) 61 (3 * k + 1) (nI (A.length - agN m g))) 61 (3 * k + 2) (nI b)) A := ho.fr (S := fun c k => (Nat.beq c 56 && Nat.ble 9 k) || Nat.beq c 61) (((((Fr.rf.sI rfl).sI rfl).sI rfl).sI rfl).sI rfl) rfl fun _ => rfl
  have a7 : (sI (sI (sI (sI (sI σ 56 10 (nI (k + 1))) 56 12 (nI (A.length - agN m g))) 61 (3 * k) (nI g)) 61 (3 * k + 1) (nI (A.length - agN m g))) 61 (3 * k + 2) (nI b)).2.2 = σ.2.2 := rfl
  generalize sI (sI (sI (sI (sI σ 56 10 (nI (k + 1))) 56 12 (nI (A.length - agN m g))) 61 (3 * k) (nI g)) 61 (3 * k + 1) (nI (A.length - agN m g))) 61 (3 * k + 2) (nI b) = σ2 at f9 a1 a2 a3 a4 a5 a6 a7 ⊢
  refine (w_ent93 (σ0 := σ2) (A := A) (Q := Q) (hX.ct f9) hg hl (fun σ3 e3 f3 o3 b10 b12 b14 b15 b11 b13 b61 => ?_) (lcN m g) 0 σ2 (Nat.zero_add _) rfl Fr.rf a6).mono fun y σ3 hy => ?_
  · refine hQ σ3 (e3.trans a7) (f9.tr f3) o3 (b10.trans a1) (b12.trans a2) (b14.trans a4) (b15.trans a5) b11 b13 ?_ ?_ ?_ fun j hj => ?_
    · rw [b61, a3, if_neg (by omega), if_neg (by omega), if_pos rfl]
    · rw [b61, a3, if_neg (by omega), if_pos rfl]
    · rw [b61, a3, if_pos rfl]
    · rw [b61, a3, if_neg (by omega), if_neg (by omega), if_neg (by omega)]
  · obtain ⟨rfl, e4, q1⟩ := Qv_s hy
    exact ⟨e4.trans a7, q1⟩
theorem x_enter8 (hX : SX t n m σ) (h10 : σ.1 56 10 = nI 64) (b : Nat) (hQ : Q (sI σ 56 15 (nI 8))) : Dv (d + 2) 107 [.ref 56, .int (nI g), .int (nI b)] σ Q := by
  refine S_Machine_enter (Q := Qv _) hX.2.2.2.1 ?_
  rw [h10]
  exact ⟨fun z => absurd z (by decide), fun _ => ⟨rfl, hQ⟩⟩
/-- a CALL -/
theorem PX.en (hX : SX t n m σ) (hg : g < (mdU m).length) (h : PX m (fs, R, e, tk, 0, sp) σ) (hfs : fs.length ≤ 64) (hA : agN m g ≤ (fl fs ++ R).length) (hl : (fl fs ++ R).length + 50 ≤ 24000) (hs : (fs = [] → R.length = agN m g) ∧ (∀ x ys, fs = x :: ys → R = [] ∧ agN m g ≤ x.2.2.2.length)) (hQ : ∀ σ', σ'.2.2 = σ.2.2 → Fr sCt σ σ' → PX m (aEn m g (fs, R, e, tk, 0, sp)) σ' → Q σ') : Dv (d + 2) 107 [.ref 56, .int (nI g), .int (nI (backI fs))] σ Q := by
  obtain ⟨l1, l2, l3, l4, l5, l6, l7⟩ := hX.lens hg
  obtain ⟨t1, t2, t3, t4⟩ := id h
  obtain ⟨ho, hfr, htop⟩ := t4 rfl
  have t2 : σ.1 56 14 = nI tk := t2
  have t3 : σ.1 56 15 = nI 0 := t3
  have ho : oX σ (fl fs ++ R) := ho
  have hfr : frX σ fs := hfr
  have htop : topX σ fs := htop
  have h10 : σ.1 56 10 = nI fs.length := by
    cases fs with
    | nil => exact htop
    | cons x ys => exact htop.1
  unfold aEn at hQ
  have hsf : sF (fs, R, e, tk, 0, sp) = fs := rfl
  rw [hsf] at hQ
  by_cases z : fs.length = 64
  · rw [if_pos z] at hQ
    rw [z] at h10
    refine x_enter8 hX h10 _ (hQ _ rfl (Fr.rf.sI rfl) ⟨t1.ct (Fr.rf.sI rfl), t2, sI_ss, fun w => absurd w (show ¬ (8 : Nat) = 0 by decide)⟩)
  rw [if_neg z] at hQ
  refine x_enter hX hg ho hA (by omega) (k := fs.length) (by omega) h10 _ fun σ1 e1 f1 o1 b10 b12 b14 b15 b11 b13 c0 c1 c2 c3 => ?_
  have hrep : ∀ (S : List Int64), ((S.take (agN m g)).reverse ++ List.replicate (lcN m g) (0 : Int64)).reverse = List.replicate (lcN m g) 0 ++ S.take (agN m g) := fun S => by
    rw [List.reverse_append, List.reverse_reverse, List.reverse_replicate]
  have hnl : ∀ (S : List Int64), agN m g ≤ S.length → ((S.take (agN m g)).reverse ++ List.replicate (lcN m g) (0 : Int64)).length = agN m g + lcN m g := fun S hS => by
    rw [List.length_append, List.length_reverse, List.length_take, List.length_replicate]
    omega
  cases fs with
  | nil =>
    have hR := hs.1 rfl
    refine hQ σ1 e1 f1 ⟨t1.ct f1, b14.trans t2, b15.trans t3, fun _ => ⟨?_, ⟨c0, ?_, c2, trivial⟩, b10, b11, ?_, ?_⟩⟩
    · show oX σ1 ((([] : List Int64) ++ (((R.take (agN m g)).reverse ++ List.replicate (lcN m g) 0).reverse ++ [])) ++ R.drop (agN m g))
      rw [hrep, List.append_nil, List.nil_append, List.append_assoc, List.take_append_drop]
      exact o1
    · rw [c1]
      show nI (R.length - agN m g) = nI 0
      rw [hR, Nat.sub_self]
    · rw [b12]
      show nI (R.length - agN m g) = nI 0
      rw [hR, Nat.sub_self]
    · rw [b13]
      show nI (R.length + lcN m g) = nI (0 + ((R.take (agN m g)).reverse ++ List.replicate (lcN m g) 0).length)
      rw [hnl R (by omega), hR, Nat.zero_add]
  | cons x ys =>
    obtain ⟨f, i, L, S⟩ := x
    obtain ⟨hR, hS⟩ := hs.2 _ _ rfl
    subst hR
    have hS : agN m g ≤ S.length := hS
    have efl : fl ((f, i, L, S) :: ys) ++ [] = S ++ (L.reverse ++ fl ys) := List.append_nil _
    have efd : fl ((f, i, L, S.drop (agN m g)) :: ys) = S.drop (agN m g) ++ (L.reverse ++ fl ys) := rfl
    have hlen : (fl ((f, i, L, S) :: ys) ++ []).length - agN m g = (fl ((f, i, L, S.drop (agN m g)) :: ys)).length := by
      rw [efl, efd, List.length_append, List.length_append (as := S.drop (agN m g)), List.length_drop]
      omega
    rw [hlen] at b12 c1
    have hfr2 : frX σ1 ((f, i, L, S.drop (agN m g)) :: ys) := by
      have : frX σ1 ((f, i, L, S) :: ys) := hfr.eq fun j hj => c3 j hj
      exact this
    refine hQ σ1 e1 f1 ⟨t1.ct f1, b14.trans t2, b15.trans t3, fun _ => ⟨?_, ⟨c0, c1, c2, hfr2⟩, b10, b11, b12, ?_⟩⟩
    · show oX σ1 ((([] : List Int64) ++ (((S.take (agN m g)).reverse ++ List.replicate (lcN m g) 0).reverse ++ (S.drop (agN m g) ++ (L.reverse ++ fl ys)))) ++ [])
      rw [hrep, List.append_nil, List.nil_append, List.append_assoc, ← List.append_assoc (S.take _), List.take_append_drop, ← efl]
      exact o1
    · rw [b13]
      show nI _ = nI ((fl ((f, i, L, S.drop (agN m g)) :: ys)).length + ((S.take (agN m g)).reverse ++ List.replicate (lcN m g) 0).length)
      rw [hnl S hS, ← hlen]
      congr 1
      omega
end CTLX
