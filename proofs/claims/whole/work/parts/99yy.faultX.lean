/-! THE CLASS judges a PROGRAM: the least fault -/
section ZF
variable {t : Nat → UInt8} {n d : Nat} {D : List FD} {σ0 σ : fkS} {C : List cdE} {w : Option Nat} {Q : Option Value → fkS → Prop}
theorem f_12 (hn : n ≤ 4000) : ∀ (R P : List FD) (w : Option Nat) (σ : fkS), D = P ++ R → KNm t n D σ0 C w σ → (∀ σ', KNm t n D σ0 C (m2 w (jNm t P R)) σ' → Wq 203 (d + 2) 36 [some (.ref 93), none, some (.int (0 : Int32))] [] σ' Q) → Wq 203 (d + 2) 12 [some (.ref 93), none, some (.int (nI P.length))] [] σ Q := by
  intro R
  induction R with
  | nil =>
    intro P w σ hD h go
    have el : D.length = P.length := by rw [hD, List.append_nil]
    refine S_Checker_faultOf_12 (d := d + 1) h.r0 ?_
    rw [h.1.2.2.1, el]
    exact ⟨by decide, fun _ => go σ (by rw [show jNm t P [] = none from rfl, m2_n]; exact h), fun y => absurd (Int32.le_refl _) y⟩
  | cons q R ih =>
    intro P w σ hD h go
    have dl : D.length = P.length + (R.length + 1) := by rw [hD, List.length_append, List.length_cons]
    have h20 := h.1.2.2.2.1
    refine S_Checker_faultOf_12 (d := d + 1) h.r0 ?_
    rw [h.1.2.2.1, (nI_succ P.length).symm]
    refine ⟨by decide, fun y => absurd y (nI_ge (by omega) (by omega)), fun _ => ?_⟩
    refine yV rfl (n_names (d := d) hn hD h) fun σ1 h1 w1 => ?_
    rw [w1]
    have g := ih (P ++ [q]) _ σ1 (by rw [hD, List.append_assoc]; rfl) h1 fun s hs => go s (by rw [jNm, ← m2_a]; exact hs)
    rw [List.length_append] at g
    exact g
theorem f_36 (hn : n ≤ 4000) (hz : szD D ≤ 400) : ∀ (R P : List FD) (w : Option Nat) (σ : fkS), D = P ++ R → KNm t n D σ0 (cGd t D P 0 ++ cDf t R (lnD P)) w σ → (∀ σ', KNm t n D σ0 (cGd t D D 0) (m2 w (jBd t D R)) σ' → Q (some (.int (flt (m2 w (jBd t D R))))) σ') → Wq 203 (d + 6) 36 [some (.ref 93), none, some (.int (nI P.length))] [] σ Q := by
  intro R
  induction R with
  | nil =>
    intro P w σ hD h go
    have el : D.length = P.length := by rw [hD, List.append_nil]
    have eP : P = D := by rw [hD, List.append_nil]
    refine S_Checker_faultOf_36 (d := d + 5) h.r0 ?_
    rw [h.1.2.2.1, el, h.2.1]
    have e0 : m2 w (jBd t D []) = w := m2_n w
    have g := go σ
    rw [e0] at g
    refine ⟨by decide, fun _ => g ?_, fun y => absurd (Int32.le_refl _) y⟩
    rw [show cDf t [] (lnD P) = [] from rfl, List.append_nil, eP] at h
    exact h
  | cons q R ih =>
    intro P w σ hD h go
    have dl : D.length = P.length + (R.length + 1) := by rw [hD, List.length_append, List.length_cons]
    have h20 := h.1.2.2.2.1
    refine S_Checker_faultOf_36 (d := d + 5) h.r0 ?_
    rw [h.1.2.2.1, (nI_succ P.length).symm]
    refine ⟨by decide, fun y => absurd y (nI_ge (by omega) (by omega)), fun _ => ?_⟩
    refine yV rfl (z_body (d := d) hn hz hD (cDf_len R _) h) fun σ1 h1 w1 => ?_
    rw [w1]
    have e1 : lnD P + ln q.2.2.2.2 + 1 = lnD (P ++ [q]) := by
      rw [lnD_app]
      show _ = lnD P + (ln q.2.2.2.2 + 1 + 0)
      omega
    rw [e1] at h1
    have g := ih (P ++ [q]) _ σ1 (by rw [hD, List.append_assoc]; rfl) h1 fun s hs => by
      have := go s
      rw [jBd, ← m2_a] at this
      exact this hs
    rw [List.length_append] at g
    exact g
/-- the least fault of a PROGRAM -/
theorem x_fault (hn : n ≤ 4000) (hz : szD D ≤ 400) (h20 : D.length ≤ 20) (hok : ∀ q ∈ D, okD t n q) (hC : CR (cDf t D 0) σ) (hD : dR t D σ) (h0 : σ.1 75 0 = nI D.length) (go : ∀ σ', KNm t n D (sI (sR σ 93 0 76) 93 8 (-1 : Int32)) (cGd t D D 0) (jd t D) σ' → Q (some (.int (flt (jd t D)))) σ') : Cl (d + 6) 203 [.ref 93, .ref 75] σ Q := by
  have f0 : Fr (fun c j => Nat.beq c 93) σ (sI (sR σ 93 0 76) 93 8 (-1 : Int32)) := (Fr.rf.sR rfl).sI rfl
  have k0 : KNm t n D (sI (sR σ 93 0 76) 93 8 (-1 : Int32)) (cDf t D 0) none (sI (sR σ 93 0 76) 93 8 (-1 : Int32)) := by
    refine ⟨⟨hC.fg f0 rfl (fun _ => rfl) (fun _ => rfl) (fun _ => rfl) (fun _ => rfl), fun i q hq => ?_, (f0 75 0 rfl).1.trans h0, h20, hok, rfl, rfl, Fr.rf⟩, sI_ss, fun a ha => by cases ha⟩
    exact hD i q hq
  refine S_Checker_faultOf (d := d + 5) ?_
  refine f_12 hn D [] none _ rfl k0 fun s hs => ?_
  refine f_36 hn hz D [] _ s rfl hs fun s2 h2 => ?_
  exact go s2 h2
end ZF
