/-! THE REFERENCE takes a PROGRAM -/
def fkPM (c j : Nat) : Bool := (Nat.beq c 103 && (Nat.beq j 1 || (Nat.ble 79 j && Nat.ble j 118))) || (Nat.ble 154 c && Nat.ble c 179)
def fkPQ (c j : Nat) : Bool := fkPM c j || (Nat.ble 180 c && Nat.ble c 185) || (Nat.beq c 103 && Nat.ble 125 j && Nat.ble j 132)
/-- a kept PROGRAM on the reference's side -/
def KPm (t : Nat → UInt8) (D : List FD) (σ : fkS) : Prop := TM (tgD t D D 0) σ ∧ TP D σ ∧ σ.1 103 126 = nI D.length
section PQs
variable {t : Nat → UInt8} {n d mm k : Nat} {D : List FD} {w : Option Nat} {σ σ' : fkS} {Q : Option Value → fkS → Prop}
theorem fkPM_of {c j : Nat} (h : (c = 103 ∧ (j = 1 ∨ (79 ≤ j ∧ j ≤ 118))) ∨ (154 ≤ c ∧ c ≤ 179)) : fkPM c j = true := by
  unfold fkPM
  simp only [Bool.or_eq_true, Bool.and_eq_true, Nat.beq_eq, Nat.ble_eq]
  exact h
theorem fkPQ_of {c j : Nat} (h : (c = 103 ∧ (j = 1 ∨ (79 ≤ j ∧ j ≤ 118) ∨ (125 ≤ j ∧ j ≤ 132))) ∨ (154 ≤ c ∧ c ≤ 185)) : fkPQ c j = true := by
  unfold fkPQ fkPM
  simp only [Bool.or_eq_true, Bool.and_eq_true, Nat.beq_eq, Nat.ble_eq]
  omega
theorem Fr.pq (h : Fr fkPM σ σ') : Fr fkPQ σ σ' := h.mono fun c j q => by unfold fkPQ; rw [q]; rfl
theorem KMm.fg {S : Nat → Nat → Bool} (hS : ∀ c j, c ≤ 179 → ¬ (c = 103 ∧ 119 ≤ j) → S c j = false) (h : KMm t n D mm w σ) (hf : Fr S σ σ') : KMm t n D mm w σ' := by
  obtain ⟨⟨h1, h2, h3, h4, h5, h6⟩, g6, g7⟩ := h
  refine ⟨⟨⟨(hf 103 79 (hS _ _ (by omega) (by omega))).1.trans h1.1, fun k hk => (hf 154 k (hS _ _ (by omega) (by omega))).1.trans (h1.2.1 k hk), h1.2.2⟩, fun i q hq => ?_, h3, (hf 103 97 (hS _ _ (by omega) (by omega))).1.trans h4, h5, h6⟩, (hf 103 81 (hS _ _ (by omega) (by omega))).1.trans g6, g7⟩
  obtain ⟨a1, a2, a3, a4, a5, a6, a7, a8⟩ := h2 i q hq
  refine ⟨(hf 155 i (hS _ _ (by omega) (by omega))).1.trans a1, (hf 156 i (hS _ _ (by omega) (by omega))).1.trans a2, (hf 157 i (hS _ _ (by omega) (by omega))).1.trans a3, (hf 158 i (hS _ _ (by omega) (by omega))).1.trans a4, (hf 160 i (hS _ _ (by omega) (by omega))).1.trans a5, a6, fun k a ha => ?_, ?_⟩
  · obtain ⟨b1, b2, b3⟩ := a7 k a ha
    exact ⟨(hf 161 _ (hS _ _ (by omega) (by omega))).1.trans b1, (hf 162 _ (hS _ _ (by omega) (by omega))).1.trans b2, (hf 163 _ (hS _ _ (by omega) (by omega))).1.trans b3⟩
  · rw [(hf 159 i (hS _ _ (by omega) (by omega))).1]
    exact At.fr (Nat.le_refl _) (Nat.le_refl _) (fun c j a1 a2 _ _ => (hf c j (hS _ _ (by omega) (by omega))).1) _ _ _ a8
/-- the text is copied -/
theorem l_17 (hk : k ≤ 4000) : ∀ (m i : Nat) (σ : fkS), i + m = k → (∀ j, j < k → σ.1 104 j = bI (t j)) → (∀ j, j < i → σ.1 154 j = bI (t j)) → (∀ σ', Fr (fun c _ => Nat.beq c 154) σ σ' → (∀ j, j < k → σ'.1 154 j = bI (t j)) → Wq 324 (d + 1) 17 [some (.ref 103), some (.int (nI k)), some (.int (nI k)), none] [] σ' Q) → Wq 324 (d + 1) 17 [some (.ref 103), some (.int (nI k)), some (.int (nI i)), none] [] σ Q := by
  intro m
  induction m with
  | zero =>
    intro i σ hi h1 h2 go
    have e : i = k := by omega
    subst e
    exact go σ Fr.rf h2
  | succ m ih =>
    intro i σ hi h1 h2 go
    have ci : (nI i).toNatClampNeg = i := nI_clamp (by omega)
    have vi : vp_in (nI i) 4000 := vp_in_nI (by omega) (by decide)
    refine S_M_program_17 ⟨fun y => absurd y (nI_ge (by omega) (by omega)), fun _ => ⟨vi, vi, ?_⟩⟩
    rw [ci, h1 i (by omega), (nI_succ i).symm]
    refine ih (i + 1) _ (by omega) (fun j hj => (congrFun (sI_o (by decide)) j).trans (h1 j hj)) (fun j hj => ?_) fun s hs => go s ((Fr.rf.sI rfl : Fr (fun c _ => Nat.beq c 154) σ _).tr hs)
    by_cases c : j = i
    · subst c; exact sI_ss
    · exact (sI_so c).trans (h2 j (by omega))
/-- the reference: what program answers, leaves -/
theorem m_program (hM : tM σ t n) (hn : n ≤ 4000) (hd : 1700 ≤ d) (hk : k ≤ n)
    (q0 : k = 0 → Q (some (.int (0 : Int32))) σ)
    (q1 : ∀ a σ', 1 ≤ k → pgF t k = some a → a ≤ 4000 → Fr fkPM σ σ' → σ'.1 103 1 = 0 → Q (some (.int ((-1 : Int32) - nI a))) σ')
    (q2 : ∀ σ', 1 ≤ k → pgF t k = none → (pgR t k).1.2.1 = none → Fr fkPQ σ σ' → σ'.1 103 1 = 0 → KPm t (pgR t k).2 σ' → Q (some (.int (nI (pgR t k).2.length))) σ') : Cl (d + 7) 324 [.ref 103, .int (nI k)] σ Q := by
  obtain ⟨x1, x2⟩ := hM
  refine S_M_program (d := d + 6) ⟨fun y => ?_, fun y => ?_⟩
  · have k0 : k = 0 := by
      rcases Nat.eq_zero_or_pos k with c | c
      · exact c
      · exact absurd y (nI_nlt (a := k) (b := 1) c (by omega))
    exact q0 k0
  have k1 : 1 ≤ k := by
    rcases Nat.eq_zero_or_pos k with c | c
    · subst c; exact absurd (by decide) y
    · exact c
  have hk4 : k ≤ 4000 := by omega
  rw [x1]
  refine ⟨fun _ => ?_, fun y => absurd (nI_le hk (by omega)) y⟩
  refine l_17 (t := t) (k := k) (d := d + 6) hk4 k 0 σ (by omega) (fun j hj => x2 j (by omega)) (fun j hj => by omega) fun σ1 f1 hT => ?_
  refine S_M_program_17 (d := d + 6) ⟨fun _ => ?_, fun y => absurd (Int32.le_refl _) y⟩
  have f2 : Fr fkPM σ1 (sI (sI (sI (sI (sI (sI (sI (sI (sI σ1 103 79 (nI k)) 103 1 (0 : Int32)) 103 80 (0 : Int32)) 103 81 (-1 : Int32)) 103 97 (0 : Int32)) 103 111 (0 : Int32)) 103 112 (0 : Int32)) 103 113 (0 : Int32)) 103 118 (0 : Int32)) := ((((((((Fr.rf.sI rfl).sI rfl).sI rfl).sI rfl).sI rfl).sI rfl).sI rfl).sI rfl).sI rfl
  have g79 : (sI (sI (sI (sI (sI (sI (sI (sI (sI σ1 103 79 (nI k)) 103 1 (0 : Int32)) 103 80 (0 : Int32)) 103 81 (-1 : Int32)) 103 97 (0 : Int32)) 103 111 (0 : Int32)) 103 112 (0 : Int32)) 103 113 (0 : Int32)) 103 118 (0 : Int32)).1 103 79 = nI k := by
    iterate 8 rw [sI_so (by decide)]
    exact sI_ss
  have g1 : (sI (sI (sI (sI (sI (sI (sI (sI (sI σ1 103 79 (nI k)) 103 1 (0 : Int32)) 103 80 (0 : Int32)) 103 81 (-1 : Int32)) 103 97 (0 : Int32)) 103 111 (0 : Int32)) 103 112 (0 : Int32)) 103 113 (0 : Int32)) 103 118 (0 : Int32)).1 103 1 = 0 := by
    iterate 7 rw [sI_so (by decide)]
    exact sI_ss
  have g80 : (sI (sI (sI (sI (sI (sI (sI (sI (sI σ1 103 79 (nI k)) 103 1 (0 : Int32)) 103 80 (0 : Int32)) 103 81 (-1 : Int32)) 103 97 (0 : Int32)) 103 111 (0 : Int32)) 103 112 (0 : Int32)) 103 113 (0 : Int32)) 103 118 (0 : Int32)).1 103 80 = nI 0 := by
    iterate 6 rw [sI_so (by decide)]
    exact sI_ss
  have g81 : (sI (sI (sI (sI (sI (sI (sI (sI (sI σ1 103 79 (nI k)) 103 1 (0 : Int32)) 103 80 (0 : Int32)) 103 81 (-1 : Int32)) 103 97 (0 : Int32)) 103 111 (0 : Int32)) 103 112 (0 : Int32)) 103 113 (0 : Int32)) 103 118 (0 : Int32)).1 103 81 = -1 := by
    iterate 5 rw [sI_so (by decide)]
    exact sI_ss
  have g97 : (sI (sI (sI (sI (sI (sI (sI (sI (sI σ1 103 79 (nI k)) 103 1 (0 : Int32)) 103 80 (0 : Int32)) 103 81 (-1 : Int32)) 103 97 (0 : Int32)) 103 111 (0 : Int32)) 103 112 (0 : Int32)) 103 113 (0 : Int32)) 103 118 (0 : Int32)).1 103 97 = nI 0 := by
    iterate 4 rw [sI_so (by decide)]
    exact sI_ss
  have g111 : (sI (sI (sI (sI (sI (sI (sI (sI (sI σ1 103 79 (nI k)) 103 1 (0 : Int32)) 103 80 (0 : Int32)) 103 81 (-1 : Int32)) 103 97 (0 : Int32)) 103 111 (0 : Int32)) 103 112 (0 : Int32)) 103 113 (0 : Int32)) 103 118 (0 : Int32)).1 103 111 = nI 0 := by
    iterate 3 rw [sI_so (by decide)]
    exact sI_ss
  have g112 : (sI (sI (sI (sI (sI (sI (sI (sI (sI σ1 103 79 (nI k)) 103 1 (0 : Int32)) 103 80 (0 : Int32)) 103 81 (-1 : Int32)) 103 97 (0 : Int32)) 103 111 (0 : Int32)) 103 112 (0 : Int32)) 103 113 (0 : Int32)) 103 118 (0 : Int32)).1 103 112 = nI 0 := by
    iterate 2 rw [sI_so (by decide)]
    exact sI_ss
  have g113 : (sI (sI (sI (sI (sI (sI (sI (sI (sI σ1 103 79 (nI k)) 103 1 (0 : Int32)) 103 80 (0 : Int32)) 103 81 (-1 : Int32)) 103 97 (0 : Int32)) 103 111 (0 : Int32)) 103 112 (0 : Int32)) 103 113 (0 : Int32)) 103 118 (0 : Int32)).1 103 113 = nI 0 := by
    rw [sI_so (by decide)]
    exact sI_ss
  have gT : ∀ j, j < k → (sI (sI (sI (sI (sI (sI (sI (sI (sI σ1 103 79 (nI k)) 103 1 (0 : Int32)) 103 80 (0 : Int32)) 103 81 (-1 : Int32)) 103 97 (0 : Int32)) 103 111 (0 : Int32)) 103 112 (0 : Int32)) 103 113 (0 : Int32)) 103 118 (0 : Int32)).1 154 j = bI (t j) := fun j hj => by
    have f3 : Fr (fun c _ => Nat.beq c 103) σ1 (sI (sI (sI (sI (sI (sI (sI (sI (sI σ1 103 79 (nI k)) 103 1 (0 : Int32)) 103 80 (0 : Int32)) 103 81 (-1 : Int32)) 103 97 (0 : Int32)) 103 111 (0 : Int32)) 103 112 (0 : Int32)) 103 113 (0 : Int32)) 103 118 (0 : Int32)) := ((((((((Fr.rf.sI rfl).sI rfl).sI rfl).sI rfl).sI rfl).sI rfl).sI rfl).sI rfl).sI rfl
    exact (f3 154 j rfl).1.trans (hT j hj)
  generalize sI (sI (sI (sI (sI (sI (sI (sI (sI σ1 103 79 (nI k)) 103 1 (0 : Int32)) 103 80 (0 : Int32)) 103 81 (-1 : Int32)) 103 97 (0 : Int32)) 103 111 (0 : Int32)) 103 112 (0 : Int32)) 103 113 (0 : Int32)) 103 118 (0 : Int32) = σ2 at f2 g79 g1 g80 g81 g97 g111 g112 g113 gT ⊢
  have f02 : Fr fkPM σ σ2 := (f1.mono fun c j q => fkPM_of (by have := Nat.beq_eq.mp q; omega)).tr f2
  have hPT : PTm t k σ2 := ⟨g79, gT, hk4⟩
  refine vV (m_scan (d := d + 2) hPT g80 (Nat.zero_le _)) fun σ3 ⟨f3, T3⟩ => ?_
  have f3' : Fr fkPM σ2 σ3 := f3.mono fun c j q => by
    unfold fkMS at q
    simp only [Bool.or_eq_true, Bool.and_eq_true, Nat.beq_eq] at q
    exact fkPM_of (by omega)
  have hPT3 : PTm t k σ3 := hPT.fr f3 (fun _ => rfl) rfl
  have hPN : PN t k σ3 (0, none, 0) 0 0 σ3 := ⟨⟨⟨hPT3, T3⟩, (f3 103 81 rfl).1.trans g81, hk4, fun a ha => by cases ha⟩, (f3 103 112 rfl).1.trans g112, (f3 103 111 rfl).1.trans g111, (f3 103 113 rfl).1.trans g113, fun _ => Nat.zero_le _, Nat.zero_le _, Nat.zero_le _, Fr.rf⟩
  have e1 : σ3.1 103 1 = 0 := (f3 103 1 rfl).1.trans g1
  refine vV (m_def (d := d) (D := []) (f := 0) hk4 rfl (by decide) (by omega) hPN rfl ((f3 103 97 rfl).1.trans g97) (fun i q hq => by simp at hq) (by decide)) fun σ4 ⟨m4, h4, F4, I4⟩ => ?_
  have myM : ∀ {s s' : fkS}, Fr fkMY s s' → Fr (fun c j => fkMY c j) s s' ∧ Fr fkPM s s' := fun {s s'} h => ⟨h, h.mono fun c j q => by
    unfold fkMY fkMP at q
    simp only [Bool.or_eq_true, Bool.and_eq_true, Nat.beq_eq, Nat.ble_eq] at q
    exact fkPM_of (by omega)⟩
  have f04 : Fr fkPM σ σ4 := ((f02.tr f3').tr (myM F4.my).2)
  have e4 : σ4.1 103 1 = 0 := (F4 103 1 rfl).1.trans e1
  have eR : pgR t k = pPg t k 19 (pDf t k (0, none, 0)).1 ([] ++ [(pDf t k (0, none, 0)).2]) := by
    unfold pgR
    rw [pPg, if_pos ⟨rfl, Or.inl rfl⟩]
  refine w_progM (d := d) hk4 (by omega) 19 1 _ m4 σ4 ([] ++ [(pDf t k (0, none, 0)).2]) rfl rfl (by decide) h4 (fun z => ?_) (fun σ5 m5 p5 F5 z5 => ?_) (fun σ5 m5 p5 F5 z5 g5 D5 => ?_)
  · obtain ⟨i1, i2, i3⟩ := I4 z
    exact ⟨i1, i2, by show m4 ≤ 3 * (pDf t k (0, none, 0)).1.2.2; have e0 : ((0, none, 0) : PS).2.2 = 0 := rfl; rw [e0] at i3; omega⟩
  · rw [← eR] at z5 p5
    cases ha : (pgR t k).1.2.1 with
    | none => exact absurd ha z5
    | some a =>
      have a4 := p5.1.2.2.2 a ha
      have e81 := p5.1.2.1
      rw [ha] at e81
      refine S_M_program_145 (d := d + 6) ⟨fun y => ?_, fun _ => ?_⟩
      · rw [e81] at y
        exact absurd y (nI_pos (by omega))
      · rw [e81]
        have eF : pgF t k = some a := by
          unfold pgF
          rw [ha, if_neg (by simp)]
        refine q1 a σ5 k1 eF a4 (f04.tr (myM F5).2) ((F5 103 1 rfl).1.trans e4)
  · rw [← eR] at z5 p5 g5 D5
    obtain ⟨-, i2, i3, i4, i5⟩ := pPg_inv hk4 20 _ _ z5 (fun _ => ⟨(fun q hq => by cases hq), Nat.le_refl _, Nat.zero_le _, Nat.le_refl _⟩) (Or.inr (by decide))
    have hCB : CB t k (pgR t k).2 m5 σ5 := ⟨p5.1.1.1, D5, p5.2.2.2.2.2.2.1, g5, i4, i2⟩
    have e81 := p5.1.2.1
    rw [z5] at e81
    have eF : pgF t k = jd t (pgR t k).2 := by
      unfold pgF
      rw [if_pos z5]
    refine vV (m_checks (d := d + 4) hk4 p5.2.2.2.2.2.2.1 i3 (by omega) hCB e81) fun σ6 ⟨h6, f6⟩ => ?_
    have h6 : KMm t k (pgR t k).2 m5 (jd t (pgR t k).2) σ6 := h6
    have f6' : Fr fkPM σ5 σ6 := f6.mono fun c j q => by
      have := fkTC_in (by unfold fkTC; rw [q]; rfl : fkTC c j = true)
      unfold fkCK at q
      simp only [Bool.or_eq_true, Bool.and_eq_true, Nat.beq_eq] at q
      exact fkPM_of (by omega)
    have f06 : Fr fkPM σ σ6 := (f04.tr (myM F5).2).tr f6'
    have e6 : σ6.1 103 1 = 0 := (f6 103 1 rfl).1.trans ((F5 103 1 rfl).1.trans e4)
    cases hj : jd t (pgR t k).2 with
    | some a =>
      rw [hj] at h6
      have a4 := h6.2.2 a rfl
      have e81' : σ6.1 103 81 = nI a := h6.2.1
      refine S_M_program_145 (d := d + 6) ⟨fun y => ?_, fun _ => ?_⟩
      · rw [e81'] at y
        exact absurd y (nI_pos (by omega))
      · rw [e81']
        exact q1 a σ6 k1 (eF.trans hj) a4 f06 e6
    | none =>
      rw [hj] at h6
      have e81' : σ6.1 103 81 = -1 := h6.2.1
      have e97 := h6.1.2.2.2.1
      refine S_M_program_145 (d := d + 6) ⟨fun _ => ?_, fun y => absurd (by rw [e81']; decide) y⟩
      rw [e97]
      have f7 : Fr (fun c j => Nat.beq c 103 && (Nat.beq j 125 || Nat.beq j 126 || Nat.beq j 132)) σ6 (sI (sI (sI σ6 103 125 (0 : Int32)) 103 126 (nI (pgR t k).2.length)) 103 132 (σ6.1 103 118)) := ((Fr.rf.sI rfl).sI rfl).sI rfl
      have e125 : (sI (sI (sI σ6 103 125 (0 : Int32)) 103 126 (nI (pgR t k).2.length)) 103 132 (σ6.1 103 118)).1 103 125 = nI 0 := (sI_so (by decide)).trans ((sI_so (by decide)).trans sI_ss)
      have e126 : (sI (sI (sI σ6 103 125 (0 : Int32)) 103 126 (nI (pgR t k).2.length)) 103 132 (σ6.1 103 118)).1 103 126 = nI (pgR t k).2.length := (sI_so (by decide)).trans sI_ss
      have h7 := h6.fg (fun c j a1 a2 => by
        cases e : (Nat.beq c 103 && (Nat.beq j 125 || Nat.beq j 126 || Nat.beq j 132))
        · rfl
        · simp only [Bool.or_eq_true, Bool.and_eq_true, Nat.beq_eq] at e
          omega) f7
      generalize sI (sI (sI σ6 103 125 (0 : Int32)) 103 126 (nI (pgR t k).2.length)) 103 132 (σ6.1 103 118) = σ7 at f7 e125 e126 h7 ⊢
      refine l_182 (d := d + 6) hk4 p5.2.2.2.2.2.2.1 i3 (by omega) (pgR t k).2 [] σ7 rfl h7 ⟨e125, Nat.zero_le _, fun i q hq => by simp [tgD] at hq⟩ (fun A q Z hA => by cases A <;> cases hA) fun σ8 h8 l8 t8 f8 => ?_
      refine q2 σ8 k1 (eF.trans hj) z5 ((f06.pq.tr (f7.mono fun c j q => ?_)).tr (f8.mono fun c j q => ?_)) ((f8 103 1 rfl).1.trans ((f7 103 1 rfl).1.trans e6)) ⟨l8, t8, (f8 103 126 rfl).1.trans e126⟩
      · simp only [Bool.or_eq_true, Bool.and_eq_true, Nat.beq_eq] at q
        exact fkPQ_of (by omega)
      · unfold fkTP at q
        rcases Bool.or_eq_true_iff.mp q with q | q
        · have := fkTC_in q
          exact fkPQ_of (by omega)
        · simp only [Bool.and_eq_true, Nat.ble_eq] at q
          exact fkPQ_of (by omega)
end PQs
