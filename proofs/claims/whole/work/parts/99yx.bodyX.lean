/-! THE CLASS judges a PROGRAM -/
/-- CODE as it stands when it was judged -/
def cGd (t : Nat → UInt8) (D : List FD) : List FD → Nat → List cdE
  | [], _ => []
  | q :: R, p => cg t (rsV t) (rsF t D) q.2.2.2.2 p (agT q.2.1 []).length (esl t (agP q.2.1 0 [])) ++ (17, 0, nI q.2.2.2.1, 0) :: cGd t D R (p + ln q.2.2.2.2 + 1)
theorem cGd_len {t : Nat → UInt8} {D : List FD} : ∀ (R : List FD) (p : Nat), (cGd t D R p).length = lnD R
  | [], _ => rfl
  | q :: R, p => by
    show (cg t (rsV t) (rsF t D) q.2.2.2.2 p (agT q.2.1 []).length (esl t (agP q.2.1 0 [])) ++ (17, 0, nI q.2.2.2.1, 0) :: cGd t D R (p + ln q.2.2.2.2 + 1)).length = ln q.2.2.2.2 + 1 + lnD R
    rw [List.length_append, cg_len, List.length_cons, cGd_len R]
    omega
theorem cGd_app {t : Nat → UInt8} {D : List FD} {q : FD} : ∀ (P : List FD) (p : Nat), cGd t D (P ++ [q]) p = cGd t D P p ++ (cg t (rsV t) (rsF t D) q.2.2.2.2 (p + lnD P) (agT q.2.1 []).length (esl t (agP q.2.1 0 [])) ++ [(17, 0, nI q.2.2.2.1, 0)])
  | [], p => rfl
  | x :: P, p => by
    show cg t (rsV t) (rsF t D) x.2.2.2.2 p (agT x.2.1 []).length (esl t (agP x.2.1 0 [])) ++ (17, 0, nI x.2.2.2.1, 0) :: cGd t D (P ++ [q]) (p + ln x.2.2.2.2 + 1) = (cg t (rsV t) (rsF t D) x.2.2.2.2 p (agT x.2.1 []).length (esl t (agP x.2.1 0 [])) ++ (17, 0, nI x.2.2.2.1, 0) :: cGd t D P (p + ln x.2.2.2.2 + 1)) ++ _
    rw [cGd_app P, show p + lnD (x :: P) = p + ln x.2.2.2.2 + 1 + lnD P by show p + (ln x.2.2.2.2 + 1 + lnD P) = _; omega, List.append_assoc, List.cons_append]
theorem lnD_app : ∀ (P R : List FD), lnD (P ++ R) = lnD P + lnD R
  | [], R => by show lnD R = 0 + lnD R; omega
  | q :: P, R => by show ln q.2.2.2.2 + 1 + lnD (P ++ R) = ln q.2.2.2.2 + 1 + lnD P + lnD R; rw [lnD_app P R]; omega
theorem stD_in {q : FD} {R : List FD} : ∀ P : List FD, stD (P ++ q :: R) P.length = lnD P
  | [] => rfl
  | x :: P => by show ln x.2.2.2.2 + 1 + stD (P ++ q :: R) P.length = ln x.2.2.2.2 + 1 + lnD P; rw [stD_in P]
theorem szD_mem {q : FD} : ∀ D : List FD, q ∈ D → sz q.2.2.2.2 ≤ szD D
  | x :: D, h => by
    show sz q.2.2.2.2 ≤ sz x.2.2.2.2 + szD D
    rcases List.mem_cons.mp h with rfl | h
    · omega
    · have := szD_mem D h
      omega
theorem agT_len : ∀ (L : List AD) (Ts : List Nat), (agT L Ts).length = L.length + Ts.length
  | [], Ts => by show Ts.length = 0 + Ts.length; omega
  | a :: L, Ts => by show (agT L (a.2.2 :: Ts)).length = L.length + 1 + Ts.length; rw [agT_len L, List.length_cons]; omega
section ZB
variable {t : Nat → UInt8} {n d : Nat} {D : List FD} {σ0 σ : fkS} {C : List cdE} {w : Option Nat} {Q : Option Value → fkS → Prop}
/-- ARGUMENTS are pushed, bound -/
theorem z_17 {f : Nat} {q : FD} (hq : D[f]? = some q) : ∀ (R P : List AD) (Ts : List Nat) (pe : List pE1) (σ : fkS), q.2.1 = P ++ R → Ts.length = P.length → pe.length = P.length → HP Ts pe → KZ t n D σ0 C Ts pe [] w σ → (∀ σ', KZ t n D σ0 C (agT R Ts) (agP R P.length pe) [] w σ' → HP (agT R Ts) (agP R P.length pe) → (agP R P.length pe).length = P.length + R.length → Wq 207 (d + 5) 17 [some (.ref 93), some (.int (nI f)), some (.int (nI (P.length + R.length))), none] [] σ' Q) → Wq 207 (d + 5) 17 [some (.ref 93), some (.int (nI f)), some (.int (nI P.length)), none] [] σ Q := by
  intro R
  induction R with
  | nil => exact fun P Ts pe σ hP hT hp hb h go => go σ h hb hp
  | cons a R ih =>
    intro P Ts pe σ hP hT hp hb h go
    obtain ⟨-, h2, -, h20, hok, -⟩ := h.1
    obtain ⟨-, -, a3, -, -, a6, a7⟩ := h2 f q hq
    have fl : f < D.length := (List.getElem?_eq_some_iff.mp hq).1
    have el : q.2.1.length = P.length + (R.length + 1) := by rw [hP, List.length_append, List.length_cons]
    have ha : q.2.1[P.length]? = some a := by rw [hP]; exact mid_a
    obtain ⟨b1, b2, b3⟩ := a7 _ a ha
    obtain ⟨o1, o2, o3⟩ := (hok q (List.mem_of_getElem? hq)).2.2.1 _ (List.mem_of_getElem? ha)
    have e1 : ((4 : Int32) * nI f) + nI P.length = nI (4 * f + P.length) := by rw [show (4 : Int32) = nI 4 from rfl, nI_mul, nI_add]
    have c1 : (nI (4 * f + P.length)).toNatClampNeg = 4 * f + P.length := nI_clamp (by omega)
    have v1 : vp_in (nI (4 * f + P.length)) 80 := vp_in_nI (by omega) (by decide)
    refine S_Checker_checkBody_17 (d := d + 4) h.r0 ?_
    rw [show (nI f).toNatClampNeg = f from nI_clamp (by omega), a3, e1, c1, b3, (nI_succ P.length).symm]
    refine ⟨by decide, vp_in_nI (by omega) (by decide), fun y => absurd y (nI_ge (by omega) (by omega)), fun _ => ⟨by decide, v1, ?_⟩⟩
    refine yV rfl (z_push rfl h (by omega) o3) fun σ1 h1 w1 => ⟨by decide, v1, ?_⟩
    rw [w1]
    obtain ⟨-, g2, -⟩ := h1.1
    obtain ⟨-, -, -, -, -, -, g7⟩ := g2 f q hq
    rw [(g7 _ a ha).1, h1.2.1.1, show nI (a.2.2 :: Ts).length - 1 = nI P.length by rw [List.length_cons, hT, show (1 : Int32) = nI 1 from rfl, nI_sub (by omega), Nat.add_sub_cancel]]
    refine yV (h.re h1) (z_bind (ty := a.2.2) rfl rfl h1 (by omega) o1 (by omega)) fun σ2 h2 w2 => ?_
    rw [w2]
    have g := ih (P ++ [a]) (a.2.2 :: Ts) (((a.1, a.2.1), P.length, a.2.2) :: pe) σ2 (by rw [hP, List.append_assoc]; rfl) (by rw [List.length_cons, List.length_append, hT]; rfl) (by rw [List.length_cons, List.length_append, hp]; rfl) (hb.up.cn (by rw [← hT]; exact rev_at _ _)) h2
    rw [List.length_append] at g
    refine g fun s h3 h4 h5 => ?_
    have := go s h3 h4 (by rw [List.length_cons]; exact h5.trans (by show P.length + 1 + R.length = _; omega))
    rw [show [a].length = 1 from rfl, show P.length + 1 + R.length = P.length + (a :: R).length by rw [List.length_cons]; omega]
    exact this
set_option maxHeartbeats 4000000 in
/-- the body of DEFINITION f -/
theorem z_body (hn : n ≤ 4000) (hz : szD D ≤ 400) {P R : List FD} {q : FD} {Z : List cdE} (hD : D = P ++ q :: R) (hZ : Z.length = lnD R) (h : KNm t n D σ0 (cGd t D P 0 ++ (cr t q.2.2.2.2 (lnD P) ++ (17, 0, nI q.2.2.2.1, 0) :: Z)) w σ) : Dv (d + 5) 207 [.ref 93, .int (nI P.length)] σ (fun σ' => KNm t n D σ0 (cGd t D (P ++ [q]) 0 ++ Z) (m2 w (jq t D q)) σ') := by
  have hq : D[P.length]? = some q := by rw [hD]; exact mid_a
  have hqm : q ∈ D := List.mem_of_getElem? hq
  have fl : P.length < D.length := (List.getElem?_eq_some_iff.mp hq).1
  have dl : D.length = P.length + (R.length + 1) := by rw [hD, List.length_append, List.length_cons]
  obtain ⟨hC, hdR, h3, h20, hok, -⟩ := h.1
  obtain ⟨o1, o2, o3, o4, o5, o6, o7, o8, o9⟩ := hok q hqm
  have zq := szD_mem D hqm
  obtain ⟨-, -, r3, r4, r5, r6, r7⟩ := hdR _ q hq
  have cf : (nI P.length).toNatClampNeg = P.length := nI_clamp (by omega)
  have vf : vp_in (nI P.length) 20 := vp_in_nI (by omega) (by decide)
  have cl := hC.2.1
  have lA := cGd_len (t := t) (D := D) P 0
  have lC : (cGd t D P 0 ++ (cr t q.2.2.2.2 (lnD P) ++ ((17 : Int32), (0 : Int64), nI q.2.2.2.1, (0 : Int32)) :: Z)).length = lnD P + (ln q.2.2.2.2 + (lnD R + 1)) := by
    rw [List.length_append, List.length_append, List.length_cons, lA, cr_len, hZ]
  rw [lC] at cl
  have z0 : KZ t n D σ0 (cGd t D P 0 ++ (cr t q.2.2.2.2 (lnD P) ++ (17, 0, nI q.2.2.2.1, 0) :: Z)) [] [] [] w (sI (sI (sI σ 93 2 (0 : Int32)) 93 5 (0 : Int32)) 93 7 (0 : Int32)) := by
    have f0 : Fr (fun c j => Nat.beq c 93 && (Nat.beq j 2 || Nat.beq j 5 || Nat.beq j 7)) σ (sI (sI (sI σ 93 2 (0 : Int32)) 93 5 (0 : Int32)) 93 7 (0 : Int32)) := ((Fr.rf.sI rfl).sI rfl).sI rfl
    refine ⟨h.1.fr rfl f0 (fun c j z => ?_), ⟨(sI_so (by decide)).trans ((sI_so (by decide)).trans sI_ss), Nat.zero_le _, fun i v hv => by simp at hv, fun v hv => by cases hv⟩, ⟨(sI_so (by decide)).trans sI_ss, Nat.zero_le _, fun i v hv => by simp at hv, fun v hv => by cases hv⟩, ⟨sI_ss, Nat.zero_le _, fun i v hv => by simp at hv, fun v hv => by cases hv⟩, h.2.fr f0 rfl⟩
    simp only [Bool.or_eq_true, Bool.and_eq_true, Nat.beq_eq] at z
    omega
  refine S_Checker_checkBody (d := d + 4) ?_
  generalize sI (sI (sI σ 93 2 (0 : Int32)) 93 5 (0 : Int32)) 93 7 (0 : Int32) = σ1 at z0 ⊢
  refine z_17 hq q.2.1 [] [] [] σ1 rfl rfl rfl (fun q hq => by cases hq) z0 fun σ2 z2 b2 l2 => ?_
  have l2' : (agP q.2.1 0 []).length = q.2.1.length := by rw [← Nat.zero_add q.2.1.length]; exact l2
  have t2 := agT_len q.2.1 []
  have g2 : z2.1.2.1 = z2.1.2.1 := rfl
  obtain ⟨hC2, hdR2, h32, -⟩ := z2.1
  obtain ⟨-, -, r32, r42, r52, -, -⟩ := hdR2 _ q hq
  have main : ZW d (lnD P + (ln q.2.2.2.2 + 1)) (nI P.length) (lnD P) σ2 (Qv (fun σ' => σ'.2.2 = σ.2.2 ∧ KNm t n D σ0 (cGd t D (P ++ [q]) 0 ++ Z) (m2 w (jq t D q)) σ')) := by
    refine (x_chk (d := d) (en := lnD P + (ln q.2.2.2.2 + 1)) hn (by omega) q.2.2.2.2).1 (cGd t D P 0) ((17, 0, nI q.2.2.2.1, 0) :: Z) (lnD P) (agT q.2.1 []) (agP q.2.1 0 []) [] w o6 lA.symm (by omega) (by omega) (by rw [t2, List.length_nil]; omega) (by omega) (by rw [List.length_nil]; omega) b2 ?_ σ2 z2
    intro σ3 z3
    have eC : cGd t D P 0 ++ (cg t (rsV t) (rsF t D) q.2.2.2.2 (lnD P) (agT q.2.1 []).length (esl t (agP q.2.1 0 [])) ++ ((17 : Int32), (0 : Int64), nI q.2.2.2.1, (0 : Int32)) :: Z) = (cGd t D P 0 ++ cg t (rsV t) (rsF t D) q.2.2.2.2 (lnD P) (agT q.2.1 []).length (esl t (agP q.2.1 0 []))) ++ ((17 : Int32), (0 : Int64), nI q.2.2.2.1, (0 : Int32)) :: Z := (List.append_assoc _ _ _).symm
    rw [eC] at z3
    have lp : (cGd t D P 0 ++ cg t (rsV t) (rsF t D) q.2.2.2.2 (lnD P) (agT q.2.1 []).length (esl t (agP q.2.1 0 []))).length = lnD P + ln q.2.2.2.2 := by rw [List.length_append, lA, cg_len]
    obtain ⟨c1, c2, c3, c4⟩ := z3.1.1.2.2 _ _ mid_at
    rw [lp] at c1 c2 c3 c4
    obtain ⟨-, -, -, r43, -⟩ := z3.1.2.1 _ q hq
    have cp : (nI (lnD P + ln q.2.2.2.2)).toNatClampNeg = lnD P + ln q.2.2.2.2 := nI_clamp (by omega)
    have vp : vp_in (nI (lnD P + ln q.2.2.2.2)) 3000 := vp_in_nI (by omega) (by decide)
    refine S_Checker_checkBody_119 (d := d + 4) z3.r0 ?_
    rw [cp, cf, c1, c3, r43]
    refine ⟨fun y => absurd y (nI_ge (by omega) (by omega)), fun _ => ⟨by decide, vp, fun y => absurd rfl y, fun _ => ⟨by decide, vf, by decide, vp, ?_⟩⟩⟩
    refine yV rfl (z_want (d := d + 3) rfl rfl z3 o4.2 o5) fun σ4 z4 w4 => ?_
    rw [w4, (nI_succ (lnD P + ln q.2.2.2.2)).symm]
    refine S_Checker_checkBody_119 (d := d + 4) z4.r0 ⟨fun _ => ⟨?_, ?_⟩, fun y => absurd (Int32.le_refl _) y⟩
    · exact z4.1.2.2.2.2.2.1.trans h.1.2.2.2.2.2.1.symm
    · have e5 : cGd t D (P ++ [q]) 0 ++ Z = (cGd t D P 0 ++ cg t (rsV t) (rsF t D) q.2.2.2.2 (lnD P) (agT q.2.1 []).length (esl t (agP q.2.1 0 []))) ++ ((17 : Int32), (0 : Int64), nI q.2.2.2.1, (0 : Int32)) :: Z := by
        rw [cGd_app, Nat.zero_add, List.append_assoc, List.append_assoc, List.append_assoc]
        rfl
      rw [e5, jq, ← m2_a]
      exact ⟨z4.1, z4.2.2.2.2⟩
  have eS : stD D P.length = lnD P := by rw [hD]; exact stD_in P
  rw [eS] at r52
  refine S_Checker_checkBody_17 (d := d + 4) z2.r0 ?_
  rw [cf, r32, List.length_nil, Nat.zero_add, (nI_succ P.length).symm, h32, r52, hC2.1]
  refine ⟨by decide, vf, fun _ => ⟨by decide, fun y => ⟨by decide, by decide, vf, ?_⟩, fun y => ⟨by decide, ?_⟩⟩, fun y => absurd (Int32.le_refl _) y⟩
  · have r0 : R = [] := by
      cases R with
      | nil => rfl
      | cons x R => exact absurd y (nI_ge (by rw [dl, List.length_cons]; omega) (by omega))
    subst r0
    rw [lC]
    exact main
  · obtain ⟨x, R2, rfl⟩ : ∃ x R2, R = x :: R2 := by
      cases R with
      | nil => exact absurd (nI_le (by rw [dl]; exact Nat.le_refl _) (by omega)) y
      | cons x R2 => exact ⟨x, R2, rfl⟩
    have hx : D[P.length + 1]? = some x := by
      have : D = (P ++ [q]) ++ x :: R2 := by rw [hD, List.append_assoc]; rfl
      rw [this, show P.length + 1 = (P ++ [q]).length by rw [List.length_append]; rfl]
      exact mid_a
    have eX : stD D (P.length + 1) = lnD P + (ln q.2.2.2.2 + 1) := by
      have : D = (P ++ [q]) ++ x :: R2 := by rw [hD, List.append_assoc]; rfl
      rw [this, show P.length + 1 = (P ++ [q]).length by rw [List.length_append]; rfl, stD_in, lnD_app]
      rfl
    obtain ⟨-, -, -, -, x5, -, -⟩ := hdR2 _ x hx
    rw [eX] at x5
    have xl : P.length + 1 < 20 := by have := (List.getElem?_eq_some_iff.mp hx).1; omega
    rw [show (nI (P.length + 1)).toNatClampNeg = P.length + 1 from nI_clamp (by omega), x5]
    exact ⟨vp_in_nI xl (by decide), by decide, vf, main⟩
end ZB
