/-! THE REFERENCE judges a PROGRAM -/
theorem dpt_sz {t : Nat → UInt8} {n : Nat} : ∀ (T : Tr) (m a z k : Nat), okT t n T m a z k → (m = 0 → dpt T + 4 ≤ 4 * sz T) ∧ (m = 1 → dpt T ≤ 4 * sz T ∧ (1 ≤ cnt T → dpt T + 2 ≤ 4 * sz T)) ∧ (m = 2 → dpt T + 4 ≤ 4 * sz T) ∧ (m = 3 → dpt T + 4 ≤ 4 * sz T) := by
  refine tr_ind (fun m a z k h => ?_) (fun kd a b c d l r hl hr _ m a0 z0 k0 h => ?_)
  · have : m = 1 := h
    subst this
    exact ⟨fun z => by omega, fun _ => ⟨Nat.le_refl _, fun c => absurd (show 1 ≤ 0 from c) (by decide)⟩, fun z => by omega, fun z => by omega⟩
  · refine ⟨fun e => ?_, fun e => ?_, fun e => ?_, fun e => ?_⟩
    · subst e
      obtain ⟨k2, _, _, _, _, _, _, e2, hk⟩ := ok_k h
      have ek : kd = k2 := by cases e2; rfl
      have hk' : kd ≤ 12 := by omega
      rcases (show kd = 0 ∨ kd = 1 ∨ kd = 2 ∨ kd = 3 ∨ kd = 4 ∨ kd = 5 ∨ kd = 6 ∨ kd = 7 ∨ kd = 8 ∨ kd = 9 ∨ kd = 10 ∨ kd = 11 ∨ kd = 12 by omega) with rfl | rfl | rfl | rfl | rfl | rfl | rfl | rfl | rfl | rfl | rfl | rfl | rfl
      · exact Nat.le_refl _
      · obtain ⟨o1, o2, o3, o4, o5⟩ := ok_1.mp h
        have := (hl _ _ _ _ o4).1 rfl
        show 2 * a + dpt l + 4 ≤ 4 * (a + sz l)
        omega
      · exact Nat.le_refl _
      · obtain ⟨o1, o2, o3, o4, o5⟩ := ok_3.mp h
        have := ((hl _ _ _ _ o4).2.1 rfl).2 (by omega)
        show 2 + dpt l + 4 ≤ 4 * (1 + sz l)
        omega
      · exact Nat.le_refl _
      · exact Nat.le_refl _
      · obtain ⟨o1, o2, o3, o4⟩ := ok_6.mp h
        have := (hl _ _ _ _ o3).1 rfl
        have := (hr _ _ _ _ o4).1 rfl
        show 2 + max (dpt l) (dpt r) + 4 ≤ 4 * (1 + sz l + sz r)
        omega
      · obtain ⟨o1, o2, o3, o4⟩ := ok_7.mp h
        have := (hl _ _ _ _ o3).1 rfl
        have := (hr _ _ _ _ o4).1 rfl
        show 2 + max (dpt l) (dpt r) + 4 ≤ 4 * (1 + sz l + sz r)
        omega
      · obtain ⟨o1, o3, o4⟩ := ok_8.mp h
        have := (hl _ _ _ _ o3).1 rfl
        have := (hr _ _ _ _ o4).1 rfl
        show 2 + max (dpt l) (dpt r) + 4 ≤ 4 * (sz l + sz r)
        omega
      · obtain ⟨o1, o2, o3, o4⟩ := ok_9.mp h
        have := (hl _ _ _ _ o3).1 rfl
        have := (hr _ _ _ _ o4).2.2.1 rfl
        show 2 + max (dpt l) (dpt r) + 4 ≤ 4 * (sz l + sz r)
        omega
      · obtain ⟨o1, o2, o3, o4⟩ := ok_10.mp h
        have := (hl _ _ _ _ o3).1 rfl
        have := (hr _ _ _ _ o4).2.2.2 rfl
        show 2 + max (dpt l) (dpt r) + 4 ≤ 4 * (sz l + sz r)
        omega
      · obtain ⟨o1, o2, o5, o3, o4⟩ := ok_11.mp h
        have := (hl _ _ _ _ o3).1 rfl
        have := (hr _ _ _ _ o4).1 rfl
        show 2 + max (dpt l) (dpt r) + 4 ≤ 4 * (sz l + sz r)
        omega
      · obtain ⟨o1, o2, o5, o3, o4, o6⟩ := ok_12.mp h
        have := (hl _ _ _ _ o3).1 rfl
        have := (hr _ _ _ _ o4).1 rfl
        show 2 + max (dpt l) (dpt r) + 4 ≤ 4 * (sz l + sz r)
        omega
    · subst e
      obtain ⟨rfl, -, -, -, -, o3, o4⟩ := ok_21.mp h
      have := (hl _ _ _ _ o3).1 rfl
      have := ((hr _ _ _ _ o4).2.1 rfl).1
      have := ((hr _ _ _ _ o4).2.1 rfl).2
      have e1 : dpt (nd 21 a b c d l r) = max (2 + dpt l) (dpt r) := rfl
      have e2 : sz (nd 21 a b c d l r) = sz l + sz r := rfl
      rw [e1, e2]
      exact ⟨by omega, fun _ => by omega⟩
    · subst e
      obtain ⟨rfl, o3, o4⟩ := ok_20.mp h
      have := (hl _ _ _ _ o3).1 rfl
      have := (hr _ _ _ _ o4).1 rfl
      show max (dpt l) (dpt r) + 4 ≤ 4 * (sz l + sz r)
      omega
    · subst e
      obtain ⟨rfl, -, -, o3, o4⟩ := ok_22.mp h
      have := (hl _ _ _ _ o3).1 rfl
      have := (hr _ _ _ _ o4).1 rfl
      show max (dpt l) (dpt r) + 4 ≤ 4 * (sz l + sz r)
      omega
/-- is there a FUNCTION of that NAME -/
def hsF (t : Nat → UInt8) (M : List FD) (x : List Nat) : Bool := M.any fun q => decide (nmT t q.1.1 q.1.2 = x)
theorem hsF_fn {t : Nat → UInt8} {x : List Nat} : ∀ (M : List FD) (i : Nat), fnI t M x i = none ↔ hsF t M x = false
  | [], _ => ⟨fun _ => rfl, fun _ => rfl⟩
  | q :: M, i => by
    have u : hsF t (q :: M) x = (decide (nmT t q.1.1 q.1.2 = x) || hsF t M x) := rfl
    rw [fnI, u]
    by_cases c : nmT t q.1.1 q.1.2 = x
    · rw [if_pos c, decide_eq_true c, Bool.true_or]
      exact ⟨(fun h => by cases h), (fun h => by cases h)⟩
    · rw [if_neg c, decide_eq_false c, Bool.false_or]
      exact hsF_fn M (i + 1)
/-- DEFINITION after DEFINITION -/
def jR (t : Nat → UInt8) (D : List FD) : List FD → List FD → Option Nat
  | _, [] => none
  | P, q :: R => m2 (m2 (m2 (dN t P q) (agF t [] q.2.1)) (jq t D q)) (jR t D (P ++ [q]) R)
theorem m2_4 (a b c d : Option Nat) : m2 (m2 a b) (m2 c d) = m2 (m2 a c) (m2 b d) := by
  rw [m2_a, m2_a, ← m2_a b c d, m2_c b c, m2_a c b d]
theorem jR_eq {t : Nat → UInt8} {D : List FD} : ∀ (R P : List FD), jR t D P R = m2 (jNm t P R) (jBd t D R)
  | [], _ => rfl
  | q :: R, P => by rw [jR, jNm, jBd, jR_eq R, m2_4]
/-- what holds between DEFINITIONS -/
def KMm (t : Nat → UInt8) (n : Nat) (D : List FD) (mm : Nat) (w : Option Nat) (σ : fkS) : Prop := CB t n D mm σ ∧ σ.1 103 81 = flt w ∧ ∀ a, w = some a → a ≤ 4000
section MC
variable {t : Nat → UInt8} {n d mm : Nat} {D : List FD} {w : Option Nat} {σ : fkS} {Q : Option Value → fkS → Prop}
theorem j_at {p : Nat} (h : KMm t n D mm w σ) (hp : p ≤ 4000) : Cv d 352 [.ref 103, .int (nI p)] σ (fun σ' => KMm t n D mm (m2 w (some p)) σ' ∧ Fr fkCK σ σ') := by
  obtain ⟨h1, h6, h7⟩ := h
  have hw := flt_lt h7
  refine S_M_faultAt ?_
  rw [h6]
  have st : ∀ b, b ≤ 4000 → m2 w (some p) = some b → b = p → KMm t n D mm (m2 w (some p)) (sI σ 103 81 (nI p)) ∧ Fr fkCK σ (sI σ 103 81 (nI p)) := by
    intro b hb e1 e2
    subst e2
    have f0 : Fr fkCK σ (sI σ 103 81 (nI b)) := Fr.rf.sI rfl
    refine ⟨⟨h1.fr f0, ?_, fun a ha => ?_⟩, f0⟩
    · rw [e1]; exact sI_ss
    · rw [e1] at ha; cases ha; exact hb
  cases w with
  | none => exact ⟨fun _ => st p hp rfl rfl, fun y => absurd (hw.2.mpr rfl) y⟩
  | some a =>
    have ha := h7 a rfl
    refine ⟨fun y => absurd (hw.2.mp y) (by simp), fun _ => ⟨fun y => ?_, fun y => ?_⟩⟩
    · have c : a ≤ p := by
        rcases Nat.lt_or_ge p a with c | c
        · exact absurd y (nI_ge c (by omega))
        · exact c
      have e1 : m2 (some a) (some p) = some a := congrArg some (Nat.min_eq_left c)
      rw [e1]
      exact ⟨⟨h1, h6, h7⟩, Fr.rf⟩
    · have c : p ≤ a := by
        rcases Nat.lt_or_ge a p with c | c
        · exact absurd (nI_le (Nat.le_of_lt c) (by omega)) y
        · exact c
      exact st p hp (congrArg some (Nat.min_eq_right c)) rfl
theorem j_12 (hn : n ≤ 4000) {P R : List FD} {q : FD} (hD : D = P ++ q :: R) : ∀ (M P2 : List FD) (w : Option Nat) (σ : fkS), P = P2 ++ M → KMm t n D mm w σ → (∀ σ', KMm t n D mm (m2 w (if fnI t M (nmT t q.1.1 q.1.2) 0 = none then none else some q.1.1)) σ' → Fr fkCK σ σ' → Wq 350 (d + 2) 73 [some (.ref 103), some (.int (nI P.length)), some (.int ((4 : Int32) * nI P.length))] [] (sI σ' 103 117 (0 : Int32)) Q) → Wq 350 (d + 2) 12 [some (.ref 103), some (.int (nI P.length)), some (.int (nI P2.length))] [] σ Q := by
  intro M
  induction M with
  | nil =>
    intro P2 w σ hP h go
    have el : P.length = P2.length := by rw [hP, List.append_nil]
    rw [← el]
    refine S_M_checks_12 (d := d + 1) ⟨fun _ => go σ (by rw [show (if fnI t [] (nmT t q.1.1 q.1.2) 0 = none then none else some q.1.1) = (none : Option Nat) from if_pos rfl, m2_n]; exact h) Fr.rf, fun y => absurd (Int32.le_refl _) y⟩
  | cons p M ih =>
    intro P2 w σ hP h go
    have el : P.length = P2.length + (M.length + 1) := by rw [hP, List.length_append, List.length_cons]
    have dl : D.length = P.length + (R.length + 1) := by rw [hD, List.length_append, List.length_cons]
    obtain ⟨hPT, hM, -, h97, h20, hok⟩ := h.1
    have hq : D[P.length]? = some q := by rw [hD]; exact mid_a
    have hp : D[P2.length]? = some p := by rw [hD, hP, List.append_assoc]; exact mid_a
    obtain ⟨a1, a2, -⟩ := hM _ q hq
    obtain ⟨b1, b2, -⟩ := hM _ p hp
    have oq := nm_in (hok q (List.mem_of_getElem? hq)).1
    have op := nm_in (hok p (List.mem_of_getElem? hp)).1
    have cq : (nI P.length).toNatClampNeg = P.length := nI_clamp (by omega)
    have cp : (nI P2.length).toNatClampNeg = P2.length := nI_clamp (by omega)
    have vq : vp_in (nI P.length) 20 := vp_in_nI (by omega) (by decide)
    have vp : vp_in (nI P2.length) 20 := vp_in_nI (by omega) (by decide)
    refine S_M_checks_12 (d := d + 1) ?_
    rw [cq, cp, a1, a2, b1, b2, (nI_succ P2.length).symm]
    refine ⟨fun y => absurd y (nI_ge (by omega) (by omega)), fun _ => ⟨vq, vq, vp, vp, ?_⟩⟩
    refine vI (k_alike hPT oq.1 op.1) fun x s ⟨hs, hx⟩ => ?_
    subst hs
    have l2 : (P2 ++ [p]).length = P2.length + 1 := by rw [List.length_append]; rfl
    have un : (if fnI t (p :: M) (nmT t q.1.1 q.1.2) 0 = none then none else some q.1.1) = if nmT t q.1.1 q.1.2 = nmT t p.1.1 p.1.2 then some q.1.1 else if fnI t M (nmT t q.1.1 q.1.2) 0 = none then none else some q.1.1 := by
      rw [fnI]
      by_cases c : nmT t q.1.1 q.1.2 = nmT t p.1.1 p.1.2
      · rw [if_pos c.symm, if_pos c, if_neg (by simp)]
      · have c' : ¬ nmT t p.1.1 p.1.2 = nmT t q.1.1 q.1.2 := fun z => c z.symm
        rw [if_neg c', if_neg c]
        by_cases c2 : fnI t M (nmT t q.1.1 q.1.2) 0 = none
        · rw [if_pos c2, if_pos ((hsF_fn M 1).mpr ((hsF_fn M 0).mp c2))]
        · rw [if_neg c2, if_neg (fun z => c2 ((hsF_fn M 0).mpr ((hsF_fn M 1).mp z)))]
    rw [un] at go
    subst hx
    by_cases c : nmT t q.1.1 q.1.2 = nmT t p.1.1 p.1.2
    · rw [if_pos c] at go ⊢
      refine ⟨fun y => absurd y (by decide), fun _ => ⟨vq, ?_⟩⟩
      rw [a1]
      refine vV (j_at h (by omega)) fun s2 ⟨h2, f2⟩ => ?_
      have g := ih (P2 ++ [p]) _ s2 (by rw [hP, List.append_assoc]; rfl) h2 fun s3 h3 f3 => go s3 (by
        rw [m2_a] at h3
        have e5 : m2 (some q.1.1) (if fnI t M (nmT t q.1.1 q.1.2) 0 = none then none else some q.1.1) = some q.1.1 := by
          split
          · exact m2_n _
          · exact m2_i _
        rw [e5] at h3
        exact h3) (f2.tr f3)
      rw [l2] at g
      exact g
    · rw [if_neg c] at go ⊢
      refine ⟨fun _ => ?_, fun y => absurd rfl y⟩
      have g := ih (P2 ++ [p]) w s (by rw [hP, List.append_assoc]; rfl) h go
      rw [l2] at g
      exact g
theorem KMm.cm (h : KMm t n D mm w σ) : CM t n D mm [] w (sI σ 103 117 (0 : Int32)) ∧ Fr fkCK σ (sI σ 103 117 (0 : Int32)) := by
  have f0 : Fr fkCK σ (sI σ 103 117 (0 : Int32)) := Fr.rf.sI rfl
  exact ⟨⟨h.1.fr f0, fun i q hq => by simp at hq, sI_ss, by decide, (fun q hq => by cases hq), (sI_so (by decide)).trans h.2.1, h.2.2⟩, f0⟩
theorem j_73 (hn : n ≤ 4000) {f : Nat} {q : FD} (hq : D[f]? = some q) (hx : ∀ σ' : fkS, CM t n D mm (ety t (agP q.2.1 0 [])) (m2 w (agF t [] q.2.1)) σ' → Fr fkCK σ σ' → Cv (d + 1) 355 [.ref 103, .int (σ'.1 159 f), .int (nI q.2.2.2.1), .int (nI q.2.2.1)] σ' (fun σ1 => Wq 350 (d + 2) 2 [some (.ref 103), some (.int (nI f + (1 : Int32))), none] [] σ1 Q)) : ∀ (R P : List AD) (pe : List pE1) (w1 : Option Nat) (σ1 : fkS), q.2.1 = P ++ R → agP q.2.1 0 [] = agP R P.length pe → m2 w (agF t [] q.2.1) = m2 w1 (agF t P R) → pe.length = P.length → (∀ x, lk (ety t pe) x = none ↔ hsA t P x = false) → CM t n D mm (ety t pe) w1 σ1 → Fr fkCK σ σ1 → Wq 350 (d + 2) 73 [some (.ref 103), some (.int (nI f)), some (.int (nI (4 * f + P.length)))] [] σ1 Q := by
  intro R
  induction R with
  | nil =>
    intro P pe w1 σ1 hP hA hW hl hk h hf
    obtain ⟨hPT, hM, -, h97, h20, hok⟩ := h.1
    obtain ⟨a1, a2, a3, a4, a5, a6, a7, a8⟩ := hM f q hq
    have fl : f < D.length := (List.getElem?_eq_some_iff.mp hq).1
    have el : q.2.1.length = P.length := by rw [hP, List.append_nil]
    have cf : (nI f).toNatClampNeg = f := nI_clamp (by omega)
    have vf : vp_in (nI f) 20 := vp_in_nI (by omega) (by decide)
    have e1 : ((4 : Int32) * nI f) + nI P.length = nI (4 * f + P.length) := by rw [show (4 : Int32) = nI 4 from rfl, nI_mul, nI_add]
    refine S_M_checks_73 (d := d + 1) ?_
    rw [cf, a3, el, e1, a5, a4]
    refine ⟨vf, fun _ => ⟨vf, vf, vf, ?_⟩, fun y => absurd (Int32.le_refl _) y⟩
    refine hx σ1 ?_ hf
    rw [hA, hW]
    rw [show agF t P [] = none by cases P <;> rfl, m2_n]
    exact h
  | cons a R ih =>
    intro P pe w1 σ1 hP hA hW hl hk h hf
    obtain ⟨hPT, hM, -, h97, h20, hok⟩ := h.1
    obtain ⟨a1, a2, a3, a4, a5, a6, a7, a8⟩ := hM f q hq
    have fl : f < D.length := (List.getElem?_eq_some_iff.mp hq).1
    have el : q.2.1.length = P.length + (R.length + 1) := by rw [hP, List.length_append, List.length_cons]
    have ha : q.2.1[P.length]? = some a := by rw [hP]; exact mid_a
    obtain ⟨b1, b2, b3⟩ := a7 _ a ha
    obtain ⟨o1, o2, o3⟩ := (hok q (List.mem_of_getElem? hq)).2.2.1 _ (List.mem_of_getElem? ha)
    have on := nm_in o1
    have cf : (nI f).toNatClampNeg = f := nI_clamp (by omega)
    have vf : vp_in (nI f) 20 := vp_in_nI (by omega) (by decide)
    have e1 : ((4 : Int32) * nI f) + nI q.2.1.length = nI (4 * f + q.2.1.length) := by rw [show (4 : Int32) = nI 4 from rfl, nI_mul, nI_add]
    have cp : (nI (4 * f + P.length)).toNatClampNeg = 4 * f + P.length := nI_clamp (by omega)
    have vp : vp_in (nI (4 * f + P.length)) 80 := vp_in_nI (by omega) (by decide)
    have le : (ety t pe).length = P.length := by unfold ety; rw [List.length_map, hl]
    have nx : ∀ (w2 : Option Nat) (σ2 : fkS), m2 w1 (agF t P (a :: R)) = m2 w2 (agF t (P ++ [a]) R) → CM t n D mm (ety t pe) w2 σ2 → Fr fkCK σ σ2 → Wq 350 (d + 2) 116 [some (.ref 103), some (.int (nI f)), some (.int (nI (4 * f + P.length)))] [] σ2 Q := by
      intro w2 σ2 hw2 h2 f2
      obtain ⟨-, -, -, -, -, -, c7, -⟩ := h2.1.2.1 f q hq
      obtain ⟨d1, d2, d3⟩ := c7 _ a ha
      refine S_M_checks_116 (d := d + 1) ?_
      rw [cp, d1, d2, d3, (nI_succ (4 * f + P.length)).symm]
      refine ⟨vp, vp, vp, vV (k_bind h2 (by omega) on.1 o3) fun σ3 ⟨h3, f3⟩ => ?_⟩
      have g := ih (P ++ [a]) (((a.1, a.2.1), P.length, a.2.2) :: pe) w2 σ3 (by rw [hP, List.append_assoc]; rfl) (by rw [hA, List.length_append]; rfl) (hW.trans hw2) (by rw [List.length_cons, hl, List.length_append]; rfl) (fun x => ?_) h3 (f2.tr f3)
      · rw [List.length_append] at g
        exact g
      · rw [ety_c, lk]
        have u : hsA t (P ++ [a]) x = (hsA t P x || decide (nmT t a.1 a.2.1 = x)) := by
          unfold hsA
          rw [List.any_append]
          simp
        rw [u]
        by_cases c : nmT t a.1 a.2.1 = x
        · rw [if_pos c, decide_eq_true c, Bool.or_true]
          exact ⟨(fun h => by cases h), (fun h => by cases h)⟩
        · rw [if_neg c, decide_eq_false c, Bool.or_false]
          exact hk x
    refine S_M_checks_73 (d := d + 1) ?_
    rw [cf, a3, e1, cp, b1, b2]
    refine ⟨vf, fun y => absurd y (nI_ge (by omega) (by omega)), fun _ => ⟨vp, vp, ?_⟩⟩
    refine vI (k_pl (d := d) h on.1) fun x s ⟨hs, hx2⟩ => ?_
    subst hs
    have pk := (plc_lk (x := nmT t a.1 a.2.1) (ety t pe))
    cases hp : plc (ety t pe) (nmT t a.1 a.2.1) with
    | none =>
      rw [hp, onI_n] at hx2
      subst hx2
      have e3 : hsA t P (nmT t a.1 a.2.1) = false := (hk _).mp (pk.2.mp hp)
      refine ⟨fun _ => nx w1 s ?_ h hf, fun y => absurd (by decide) y⟩
      rw [agF, e3, if_neg (by decide)]
      rfl
    | some i =>
      rw [hp, onI_s] at hx2
      subst hx2
      have il := (pk.1 i hp).1
      have e3 : hsA t P (nmT t a.1 a.2.1) = true := by
        cases e : hsA t P (nmT t a.1 a.2.1)
        · have := pk.2.mpr ((hk _).mpr e)
          rw [hp] at this
          cases this
        · rfl
      refine ⟨fun y => absurd y (nI_pos (by omega)), fun _ => ⟨vp, ?_⟩⟩
      rw [b1]
      refine vV (k_at h (by omega)) fun s2 ⟨h2, f2⟩ => nx _ s2 ?_ h2 (hf.tr f2)
      rw [agF, e3, if_pos rfl, m2_a]
/-- each DEFINITION -/
theorem j_2 (hn : n ≤ 4000) (hm : mm ≤ 3000) (hz : szD D ≤ 400) (hd : 1605 ≤ d) : ∀ (R P : List FD) (w : Option Nat) (σ : fkS), D = P ++ R → KMm t n D mm w σ → (∀ σ', KMm t n D mm (m2 w (jR t D P R)) σ' → Fr fkCK σ σ' → Q none σ') → Wq 350 (d + 2) 2 [some (.ref 103), some (.int (nI P.length)), none] [] σ Q := by
  intro R
  induction R with
  | nil =>
    intro P w σ hD h go
    have el : D.length = P.length := by rw [hD, List.append_nil]
    refine S_M_checks_2 (d := d + 1) ?_
    rw [h.1.2.2.2.1, el]
    refine ⟨fun _ => go σ ?_ Fr.rf, fun y => absurd (Int32.le_refl _) y⟩
    rw [show jR t D P [] = none by cases P <;> rfl, m2_n]
    exact h
  | cons q R ih =>
    intro P w σ hD h go
    have dl : D.length = P.length + (R.length + 1) := by rw [hD, List.length_append, List.length_cons]
    have hq : D[P.length]? = some q := by rw [hD]; exact mid_a
    have hqm : q ∈ D := List.mem_of_getElem? hq
    have h20 := h.1.2.2.2.2.1
    have ok := h.1.2.2.2.2.2 q hqm
    have zq := szD_mem D hqm
    refine S_M_checks_2 (d := d + 1) ?_
    rw [h.1.2.2.2.1]
    refine ⟨fun y => absurd y (nI_ge (by omega) (by omega)), fun _ => ?_⟩
    refine j_12 hn hD P [] w σ rfl h fun σ1 h1 f1 => ?_
    obtain ⟨h2, f2⟩ := h1.cm
    have e4 : ((4 : Int32) * nI P.length) = nI (4 * P.length + ([] : List AD).length) := by rw [show (4 : Int32) = nI 4 from rfl, nI_mul]; rfl
    rw [e4]
    refine j_73 (w := m2 w (dN t P q)) (σ := σ) hn hq (fun σ3 h3 f3 => ?_) q.2.1 [] [] _ _ rfl rfl rfl rfl (fun x => ⟨fun _ => rfl, fun _ => rfl⟩) h2 (f1.tr f2)
    obtain ⟨-, -, -, -, -, -, -, a8⟩ := h3.1.2.1 _ q hq
    have dp := (dpt_sz _ _ _ _ _ ok.2.2.2.2.2.1).1 rfl
    have lp : (ety t (agP q.2.1 0 [])).length ≤ 100 := by
      have : ∀ (L : List AD) (s : Nat) (pe : List pE1), (agP L s pe).length = L.length + pe.length := by
        intro L
        induction L with
        | nil => intro s pe; show pe.length = 0 + pe.length; omega
        | cons a L ih => intro s pe; show (agP L (s + 1) _).length = L.length + 1 + pe.length; rw [ih, List.length_cons]; omega
      unfold ety
      rw [List.length_map, this, List.length_nil]
      have := ok.2.1.2
      omega
    refine vV (k_exp (m_chk hm q.2.2.2.2).1 (by omega) ok.2.2.2.2.2.1 (by omega) a8 h3 (by have := ok.2.2.2.2.2.2.2.1; omega) rfl ok.2.2.2.1.2 rfl ok.2.2.2.2.1) fun σ4 ⟨h4, f4⟩ => ?_
    rw [← nI_succ]
    have g := ih (P ++ [q]) _ σ4 (by rw [hD, List.append_assoc]; rfl) ⟨h4.1, h4.2.2.2.2.2.1, h4.2.2.2.2.2.2⟩ fun s hs fs => go s (by
      rw [jR, jq]
      simp only [m2_a] at hs ⊢
      exact hs) ((f3.tr f4).tr fs)
    rw [List.length_append] at g
    exact g
/-- the reference judges a PROGRAM -/
theorem m_checks (hn : n ≤ 4000) (hm : mm ≤ 3000) (hz : szD D ≤ 400) (hd : 1605 ≤ d) (h : CB t n D mm σ) (h81 : σ.1 103 81 = flt none) : Cv (d + 2) 350 [.ref 103] σ (fun σ' => KMm t n D mm (jd t D) σ' ∧ Fr fkCK σ σ') := by
  refine S_M_checks (d := d + 1) ?_
  refine j_2 hn hm hz hd D [] none σ rfl ⟨h, h81, fun a ha => by cases ha⟩ fun σ' h' f' => ?_
  rw [jR_eq] at h'
  exact ⟨h', f'⟩
end MC
