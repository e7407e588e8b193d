/-! THE CLASS reads a PROGRAM -/
def fkPZ (c _ : Nat) : Bool := Nat.ble 75 c && Nat.ble c 92
section PZ
variable {t : Nat → UInt8} {n d : Nat} {σ0 σ : fkS} {s : PS} {C : List cdE}
theorem fkPZ_of {c j : Nat} (h1 : 75 ≤ c) (h2 : c ≤ 92) : fkPZ c j = true := by
  unfold fkPZ
  rw [Nat.ble_eq.mpr h1, Nat.ble_eq.mpr h2]
  rfl
theorem Fr.pz {f : Nat} {σ' : fkS} (h : Fr (fkDX f) σ σ') : Fr fkPZ σ σ' := h.mono fun c j q => by
  refine fkPZ_of ?_ ?_
  all_goals
    unfold fkDX fkPP fkPC fkPE fkPA fkCR at q
    simp only [Bool.or_eq_true, Bool.and_eq_true, Nat.beq_eq, Nat.ble_eq] at q
    omega
theorem Fr.pz2 {σ' : fkS} (h : Fr fkPP σ σ') : Fr fkPZ σ σ' := (Fr.pd (f := 0) h).pz
/-- what is said of the PROGRAM so far -/
def PRd (t : Nat → UInt8) (s : PS) (D : List FD) (C : List cdE) (σ : fkS) : Prop := s.2.1 = none → C = cDf t D 0 ∧ dR t D σ ∧ C.length ≤ 6 * s.2.2
theorem w_prog (hn : n ≤ 4000) (hd : 244 ≤ d + 1) {Q : Option Value → fkS → Prop} : ∀ (fu k : Nat) (s : PS) (C : List cdE) (σ : fkS) (D : List FD), fu + k = 20 → D.length = k → PC t n σ s C σ → PRd t s D C σ → (k ≠ 0 → σ.1 75 0 = nI k) →
    (∀ σ' C', PC t n σ' (pPg t n fu s D).1 C' σ' → σ'.2.2 = σ.2.2 → Fr fkPZ σ σ' → PRd t (pPg t n fu s D).1 (pPg t n fu s D).2 C' σ' → ((pPg t n fu s D).2 ≠ [] → σ'.1 75 0 = nI (pPg t n fu s D).2.length) → Q (some (.int (σ'.1 88 13))) σ') →
    Wq 143 (d + 3) 53 [some (.ref 88), none, none, none, some (.int (nI k))] [] σ Q := by
  intro fu
  induction fu with
  | zero =>
    intro k s C σ D hk hD h hR h75 hQ
    rw [pPg] at hQ
    have k20 : k = 20 := by omega
    have ne : D ≠ [] := fun z => by rw [z] at hD; simp at hD; omega
    refine S_Parser_parse_53 (d := d + 2) ⟨fun _ => ?_, fun y => absurd (nI_le (a := 20) (b := k) (by omega) (by omega)) y⟩
    refine yI rfl (x_fine h) fun x σ1 ⟨e1, hx⟩ w1 => ?_
    subst e1
    rw [w1]
    refine ⟨fun y => ?_, fun y => ?_⟩
    · have z : ¬ s.2.1 = none := fun c => by rw [hx, if_pos c] at y; exact absurd y (by decide)
      rw [if_neg (fun c => z c.1)] at hQ
      exact hQ σ1 C h rfl Fr.rf hR (fun _ => by rw [h75 (by omega), hD])
    · have z : s.2.1 = none := Classical.byContradiction fun c => y (by rw [hx, if_neg c])
      rw [h.kind]
      refine ⟨fun y2 => ?_, fun y2 => ?_⟩
      · rw [if_neg (fun c => c.2 y2)] at hQ
        exact hQ σ1 C h rfl Fr.rf hR (fun _ => by rw [h75 (by omega), hD])
      · rw [if_pos ⟨z, y2⟩] at hQ
        refine yV rfl (x_fail h z) fun σ2 g2 w2 => ?_
        rw [w2]
        have P : Fr fkPP σ1 σ2 := g2.2.2.2.2.2.1
        exact hQ σ2 C g2.base (h.re g2) P.pz2 (fun c => by cases c) (fun _ => by rw [(P 75 0 (fkPP_no rfl)).1, h75 (by omega), hD])
  | succ fu ih =>
    intro k s C σ D hk hD h hR h75 hQ
    rw [pPg] at hQ
    refine S_Parser_parse_53 (d := d + 2) ⟨fun y => absurd y (nI_ge (a := k) (b := 20) (by omega) (by decide)), fun _ => ?_⟩
    refine yI rfl (x_fine h) fun x σ1 ⟨e1, hx⟩ w1 => ?_
    subst e1
    rw [w1]
    have go : s.2.1 = none → (D = [] ∨ ¬ kA t n s.1 = 0) → Dv (d + 2) 184 [.ref 88, .int (nI k)] σ1 (fun σ9 => Wq 143 (d + 3) 53 [some (.ref 88), none, none, none, some (.int (nI k + (1 : Int32)))] [] (sW σ9 σ1) Q) := by
      intro z c
      rw [if_pos ⟨z, c⟩] at hQ
      refine yV rfl (x_def hn hD (by omega) hd h hR) fun σ2 ⟨C2, g1, g2, g3, g4⟩ w2 => ?_
      have er : σ2.2.2 = σ1.2.2 := by rw [← w2]; rfl
      rw [w2, (nI_succ k).symm]
      refine ih (k + 1) _ C2 σ2 _ (by omega) (by rw [List.length_append, hD]; rfl) g1 g4 (fun _ => g3) fun σ' C' b1 b2 b3 b4 b5 => hQ σ' C' b1 (b2.trans er) (g2.pz.tr b3) b4 b5
    refine ⟨fun y => ?_, fun y => ?_⟩
    · have z : ¬ s.2.1 = none := fun c => by rw [hx, if_pos c] at y; exact absurd y (by decide)
      rw [if_neg (fun c => z c.1)] at hQ
      refine yI rfl (x_fine h) fun x2 σ2 ⟨e2, hx2⟩ w2 => ?_
      subst e2
      rw [w2]
      refine ⟨fun _ => hQ σ2 C h rfl Fr.rf hR (fun ne => ?_), fun y2 => absurd (by rw [hx2, if_neg z]) y2⟩
      have : k ≠ 0 := fun c => ne (List.length_eq_zero_iff.mp (hD.trans c))
      rw [h75 this, hD]
    · have z : s.2.1 = none := Classical.byContradiction fun c => y (by rw [hx, if_neg c])
      rw [h.kind]
      refine ⟨fun y2 => ?_, fun y2 => ?_⟩
      · have k0 : k = 0 := (nI_eq (a := k) (b := 0) (by omega) (by decide)).mp y2
        have := go z (Or.inl (List.length_eq_zero_iff.mp (hD.trans k0)))
        exact this
      · have k0 : k ≠ 0 := fun c => y2 (by rw [c]; rfl)
        refine ⟨fun y3 => ?_, fun y3 => go z (Or.inr y3)⟩
        have ne : D ≠ [] := fun c => k0 (by rw [← hD, c]; rfl)
        rw [if_neg (fun c => c.2.elim ne (fun q => q y3))] at hQ
        refine yI rfl (x_fine h) fun x2 σ2 ⟨e2, hx2⟩ w2 => ?_
        subst e2
        rw [w2, h.kind]
        exact ⟨fun _ => hQ σ2 C h rfl Fr.rf hR (fun _ => by rw [h75 k0, hD]), fun _ => ⟨fun _ => hQ σ2 C h rfl Fr.rf hR (fun _ => by rw [h75 k0, hD]), fun y4 => absurd y3 y4⟩⟩
/-- the class reads a PROGRAM -/
theorem x_parse (hn : n ≤ 4000) (hd : 244 ≤ d + 1) (hb : ∀ k, k < n → σ.1 1 k = (t k).toInt8.toInt32) : Ci (d + 8) 143 [.ref 88, .ref 75, .ref 1, .int (nI n)] σ (fun x σ' => x = flt (pPg t n 20 (0, none, 0) []).1.2.1 ∧ σ'.2.2 = (sR (sR σ 88 0 76) 88 1 2).2.2 ∧ Fr fkPZ σ σ' ∧ ((pPg t n 20 (0, none, 0) []).1.2.1 = none → CR (cDf t (pPg t n 20 (0, none, 0) []).2 0) σ' ∧ dR t (pPg t n 20 (0, none, 0) []).2 σ' ∧ σ'.1 75 0 = nI (pPg t n 20 (0, none, 0) []).2.length)) := by
  have c4 : (if (4000 : Int32) < nI n then (4000 : Int32) else nI n) = nI n := if_neg (nI_nlt (a := 4000) (b := n) hn (by decide))
  refine S_Parser_parse (d := d + 7) ⟨by decide, ?_⟩
  have f0 : Fr fkPZ σ (sR σ 88 0 76) := Fr.rf.sR (fkPZ_of (by decide) (by decide))
  refine S_Program_clear ⟨rfl, ?_⟩
  rw [c4]
  show Dv (d + 7) 145 [.ref 88] (sI (sR (sI (sI (sR σ 88 0 76) 75 0 (0 : Int32)) 75 9 (0 : Int32)) 88 1 2) 88 2 (nI n)) _
  have f1 : Fr fkPZ σ (sI (sR (sI (sI (sR σ 88 0 76) 75 0 (0 : Int32)) 75 9 (0 : Int32)) 88 1 2) 88 2 (nI n)) := (((f0.sI (fkPZ_of (by decide) (by decide))).sI (fkPZ_of (by decide) (by decide))).sR (fkPZ_of (by decide) (by decide))).sI (fkPZ_of (by decide) (by decide))
  have hp : PTx t n (sI (sR (sI (sI (sR σ 88 0 76) 75 0 (0 : Int32)) 75 9 (0 : Int32)) 88 1 2) 88 2 (nI n)) := by
    refine ⟨(show (sR (sI (sI (sR σ 88 0 76) 75 0 (0 : Int32)) 75 9 (0 : Int32)) 88 1 2).2.2 88 1 = 2 from sR_ss), sI_ss, fun k hk => ?_, hn⟩
    exact (f1 1 k rfl).1.trans (hb k hk)
  have hr : (sI (sR (sI (sI (sR σ 88 0 76) 75 0 (0 : Int32)) 75 9 (0 : Int32)) 88 1 2) 88 2 (nI n)).2.2 = (sR (sR σ 88 0 76) 88 1 2).2.2 := rfl
  have c9 : (sI (sR (sI (sI (sR σ 88 0 76) 75 0 (0 : Int32)) 75 9 (0 : Int32)) 88 1 2) 88 2 (nI n)).1 75 9 = nI 0 := (congrFun (sI_o (by decide)) 9).trans (show (sI (sI (sR σ 88 0 76) 75 0 (0 : Int32)) 75 9 (0 : Int32)).1 75 9 = nI 0 from sI_ss)
  generalize sI (sR (sI (sI (sR σ 88 0 76) 75 0 (0 : Int32)) 75 9 (0 : Int32)) 88 1 2) 88 2 (nI n) = σ1 at f1 hp hr c9 ⊢
  refine yV hr (p_row hp) fun σ2 ⟨F2, T2⟩ w2 => ?_
  rw [w2]
  have e2 : σ2.2.2 = (sR (sR σ 88 0 76) 88 1 2).2.2 := by rw [← w2]; rfl
  have f2 : Fr fkPZ σ1 σ2 := F2.mono fun c j q => by
    refine fkPZ_of ?_ ?_
    all_goals
      unfold fkTA fkPW fkTK at q
      simp only [Bool.or_eq_true, Bool.and_eq_true, Nat.beq_eq, Nat.ble_eq] at q
      omega
  have f3 : Fr (fun c j => Nat.beq c 88 && (Nat.beq j 12 || Nat.beq j 13 || Nat.beq j 8)) σ2 (sI (sI (sI σ2 88 12 (0 : Int32)) 88 13 (-1 : Int32)) 88 8 (-1 : Int32)) := ((Fr.rf.sI rfl).sI rfl).sI rfl
  have f3' : Fr fkPZ σ2 (sI (sI (sI σ2 88 12 (0 : Int32)) 88 13 (-1 : Int32)) 88 8 (-1 : Int32)) := ((Fr.rf.sI (fkPZ_of (by decide) (by decide))).sI (fkPZ_of (by decide) (by decide))).sI (fkPZ_of (by decide) (by decide))
  have T3 := T2.fg f3 rfl (fun _ => rfl) (fun _ => rfl) (fun _ => rfl)
  have e12 : (sI (sI (sI σ2 88 12 (0 : Int32)) 88 13 (-1 : Int32)) 88 8 (-1 : Int32)).1 88 12 = nI 0 := (sI_so (by decide)).trans ((sI_so (by decide)).trans sI_ss)
  have e13 : (sI (sI (sI σ2 88 12 (0 : Int32)) 88 13 (-1 : Int32)) 88 8 (-1 : Int32)).1 88 13 = -1 := (sI_so (by decide)).trans sI_ss
  have e8 : (sI (sI (sI σ2 88 12 (0 : Int32)) 88 13 (-1 : Int32)) 88 8 (-1 : Int32)).1 88 8 = -1 := sI_ss
  have e9 : (sI (sI (sI σ2 88 12 (0 : Int32)) 88 13 (-1 : Int32)) 88 8 (-1 : Int32)).1 75 9 = nI 0 := by
    refine (f3 75 9 rfl).1.trans ((F2 75 9 ?_).1.trans c9)
    unfold fkTA fkPW fkTK
    rfl
  have er3 : (sI (sI (sI σ2 88 12 (0 : Int32)) 88 13 (-1 : Int32)) 88 8 (-1 : Int32)).2.2 = (sR (sR σ 88 0 76) 88 1 2).2.2 := e2
  generalize sI (sI (sI σ2 88 12 (0 : Int32)) 88 13 (-1 : Int32)) 88 8 (-1 : Int32) = σ3 at f3' T3 e12 e13 e8 e9 er3 ⊢
  refine yV er3 (p_adv0 hn T3 e8) fun σ4 ⟨F4, A4⟩ w4 => ?_
  rw [w4]
  have e4 : σ4.2.2 = (sR (sR σ 88 0 76) 88 1 2).2.2 := by rw [← w4]; rfl
  have f4 : Fr fkPZ σ3 σ4 := F4.mono fun c j q => by
    refine fkPZ_of ?_ ?_
    all_goals
      unfold fkPA at q
      simp only [Bool.or_eq_true, Bool.and_eq_true, Nat.beq_eq] at q
      omega
  have P4 : PC t n σ4 (0, none, 0) [] σ4 := ⟨⟨A4, (F4 88 13 rfl).1.trans e13, hn, fun a ha => by cases ha⟩, ⟨(F4 75 9 rfl).1.trans e9, Nat.zero_le _, fun i e he => by simp at he⟩, (F4 88 12 rfl).1.trans e12, rfl, by rw [e4]; rfl, Fr.rf, fun _ => Nat.zero_le _⟩
  refine w_prog (d := d + 5) hn (by omega) 20 0 _ [] σ4 [] rfl rfl P4 (fun _ => ⟨rfl, fun i q hq => by simp at hq, Nat.le_refl _⟩) (fun z => absurd rfl z) fun σ' C' b1 b2 b3 b4 b5 => ?_
  have ne : (pPg t n 20 (0, none, 0) []).1.2.1 = none → (pPg t n 20 (0, none, 0) []).2 ≠ [] := fun z => (pPg_inv hn 20 _ _ z (fun _ => ⟨(fun q hq => by cases hq), Nat.le_refl _, Nat.zero_le _, Nat.le_refl _⟩) (Or.inr (by decide))).2.2.2.2
  refine ⟨b1.1.2.1, b2.trans e4, (((f1.tr f2).tr f3').tr f4).tr b3, fun z => ?_⟩
  obtain ⟨c1, c2, -⟩ := b4 z
  have cr := b1.2.1
  rw [c1] at cr
  exact ⟨cr, c2, b5 (ne z)⟩
end PZ
