/-! THE CLASS takes a PROGRAM -/
section PZ2
variable {t : Nat → UInt8} {n d : Nat} {σ0 σ : fkS} {s : PS} {C : List cdE}
theorem x_parse2 (hn : n ≤ 4000) (hd : 244 ≤ d + 1) (hb : ∀ k, k < n → σ.1 1 k = (t k).toInt8.toInt32) : Ci (d + 8) 143 [.ref 88, .ref 75, .ref 1, .int (nI n)] σ (fun x σ' => x = flt (pPg t n 20 (0, none, 0) []).1.2.1 ∧ (∀ a, (pPg t n 20 (0, none, 0) []).1.2.1 = some a → a ≤ 4000) ∧ σ'.2.2 = (sR (sR σ 88 0 76) 88 1 2).2.2 ∧ Fr fkPZ σ σ' ∧ ((pPg t n 20 (0, none, 0) []).1.2.1 = none → CR (cDf t (pPg t n 20 (0, none, 0) []).2 0) σ' ∧ dR t (pPg t n 20 (0, none, 0) []).2 σ' ∧ σ'.1 75 0 = nI (pPg t n 20 (0, none, 0) []).2.length)) := by
  have c4 : (if (4000 : Int32) < nI n then (4000 : Int32) else nI n) = nI n := if_neg (nI_nlt (a := 4000) (b := n) hn (by decide))
  refine S_Parser_parse (d := d + 7) ⟨by decide, ?_⟩
  have f0 : Fr fkPZ σ (sR σ 88 0 76) := Fr.rf.sR (fkPZ_of (by decide) (by decide))
  refine S_Program_clear ⟨rfl, ?_⟩
  rw [c4]
  show Dv (d + 7) 145 [.ref 88] (sI (sR (sI (sI (sR σ 88 0 76) 75 0 (0 : Int32)) 75 9 (0 : Int32)) 88 1 2) 88 2 (nI n)) _
  have f1 : Fr fkPZ σ (sI (sR (sI (sI (sR σ 88 0 76) 75 0 (0 : Int32)) 75 9 (0 : Int32)) 88 1 2) 88 2 (nI n)) := (((f0.sI (fkPZ_of (by decide) (by decide))).sI (fkPZ_of (by decide) (by decide))).sR (fkPZ_of (by decide) (by decide))).sI (fkPZ_of (by decide) (by decide))
  have hp : PTx t n (sI (sR (sI (sI (sR σ 88 0 76) 75 0 (0 : Int32)) 75 9 (0 : Int32)) 88 1 2) 88 2 (nI n)) := by
    refine ⟨(show (sR (sI (sI (sR σ 88 0 76) 75 0 (0 : Int32)) 75 9 (0 : Int32)) 88 1 2).2.2 88 1 = 2 from sR_ss), sI_ss, fun k hk => ?_, hn⟩
    exact (f1 1 k rfl).1.trans (hb k hk)
  have hr : (sI (sR (sI (sI (sR σ 88 0 76) 75 0 (0 : Int32)) 75 9 (0 : Int32)) 88 1 2) 88 2 (nI n)).2.2 = (sR (sR σ 88 0 76) 88 1 2).2.2 := rfl
  have c9 : (sI (sR (sI (sI (sR σ 88 0 76) 75 0 (0 : Int32)) 75 9 (0 : Int32)) 88 1 2) 88 2 (nI n)).1 75 9 = nI 0 := (congrFun (sI_o (by decide)) 9).trans (show (sI (sI (sR σ 88 0 76) 75 0 (0 : Int32)) 75 9 (0 : Int32)).1 75 9 = nI 0 from sI_ss)
  generalize sI (sR (sI (sI (sR σ 88 0 76) 75 0 (0 : Int32)) 75 9 (0 : Int32)) 88 1 2) 88 2 (nI n) = σ1 at f1 hp hr c9 ⊢
  refine yV hr (p_row hp) fun σ2 ⟨F2, T2⟩ w2 => ?_
  rw [w2]
  have e2 : σ2.2.2 = (sR (sR σ 88 0 76) 88 1 2).2.2 := by rw [← w2]; rfl
  have f2 : Fr fkPZ σ1 σ2 := F2.mono fun c j q => by
    refine fkPZ_of ?_ ?_
    all_goals
      unfold fkTA fkPW fkTK at q
      simp only [Bool.or_eq_true, Bool.and_eq_true, Nat.beq_eq, Nat.ble_eq] at q
      omega
  have f3 : Fr (fun c j => Nat.beq c 88 && (Nat.beq j 12 || Nat.beq j 13 || Nat.beq j 8)) σ2 (sI (sI (sI σ2 88 12 (0 : Int32)) 88 13 (-1 : Int32)) 88 8 (-1 : Int32)) := ((Fr.rf.sI rfl).sI rfl).sI rfl
  have f3' : Fr fkPZ σ2 (sI (sI (sI σ2 88 12 (0 : Int32)) 88 13 (-1 : Int32)) 88 8 (-1 : Int32)) := ((Fr.rf.sI (fkPZ_of (by decide) (by decide))).sI (fkPZ_of (by decide) (by decide))).sI (fkPZ_of (by decide) (by decide))
  have T3 := T2.fg f3 rfl (fun _ => rfl) (fun _ => rfl) (fun _ => rfl)
  have e12 : (sI (sI (sI σ2 88 12 (0 : Int32)) 88 13 (-1 : Int32)) 88 8 (-1 : Int32)).1 88 12 = nI 0 := (sI_so (by decide)).trans ((sI_so (by decide)).trans sI_ss)
  have e13 : (sI (sI (sI σ2 88 12 (0 : Int32)) 88 13 (-1 : Int32)) 88 8 (-1 : Int32)).1 88 13 = -1 := (sI_so (by decide)).trans sI_ss
  have e8 : (sI (sI (sI σ2 88 12 (0 : Int32)) 88 13 (-1 : Int32)) 88 8 (-1 : Int32)).1 88 8 = -1 := sI_ss
  have e9 : (sI (sI (sI σ2 88 12 (0 : Int32)) 88 13 (-1 : Int32)) 88 8 (-1 : Int32)).1 75 9 = nI 0 := by
    refine (f3 75 9 rfl).1.trans ((F2 75 9 ?_).1.trans c9)
    unfold fkTA fkPW fkTK
    rfl
  have er3 : (sI (sI (sI σ2 88 12 (0 : Int32)) 88 13 (-1 : Int32)) 88 8 (-1 : Int32)).2.2 = (sR (sR σ 88 0 76) 88 1 2).2.2 := e2
  generalize sI (sI (sI σ2 88 12 (0 : Int32)) 88 13 (-1 : Int32)) 88 8 (-1 : Int32) = σ3 at f3' T3 e12 e13 e8 e9 er3 ⊢
  refine yV er3 (p_adv0 hn T3 e8) fun σ4 ⟨F4, A4⟩ w4 => ?_
  rw [w4]
  have e4 : σ4.2.2 = (sR (sR σ 88 0 76) 88 1 2).2.2 := by rw [← w4]; rfl
  have f4 : Fr fkPZ σ3 σ4 := F4.mono fun c j q => by
    refine fkPZ_of ?_ ?_
    all_goals
      unfold fkPA at q
      simp only [Bool.or_eq_true, Bool.and_eq_true, Nat.beq_eq] at q
      omega
  have P4 : PC t n σ4 (0, none, 0) [] σ4 := ⟨⟨A4, (F4 88 13 rfl).1.trans e13, hn, fun a ha => by cases ha⟩, ⟨(F4 75 9 rfl).1.trans e9, Nat.zero_le _, fun i e he => by simp at he⟩, (F4 88 12 rfl).1.trans e12, rfl, by rw [e4]; rfl, Fr.rf, fun _ => Nat.zero_le _⟩
  refine w_prog (d := d + 5) hn (by omega) 20 0 _ [] σ4 [] rfl rfl P4 (fun _ => ⟨rfl, fun i q hq => by simp at hq, Nat.le_refl _⟩) (fun z => absurd rfl z) fun σ' C' b1 b2 b3 b4 b5 => ?_
  have ne : (pPg t n 20 (0, none, 0) []).1.2.1 = none → (pPg t n 20 (0, none, 0) []).2 ≠ [] := fun z => (pPg_inv hn 20 _ _ z (fun _ => ⟨(fun q hq => by cases hq), Nat.le_refl _, Nat.zero_le _, Nat.le_refl _⟩) (Or.inr (by decide))).2.2.2.2
  refine ⟨b1.1.2.1, b1.1.2.2.2, b2.trans e4, (((f1.tr f2).tr f3').tr f4).tr b3, fun z => ?_⟩
  obtain ⟨c1, c2, -⟩ := b4 z
  have cr := b1.2.1
  rw [c1] at cr
  exact ⟨cr, c2, b5 (ne z)⟩
end PZ2
/-- what comes of a PROGRAM: DEFINITIONS, the least fault -/
def pgR (t : Nat → UInt8) (n : Nat) : PS × List FD := pPg t n 20 (0, none, 0) []
def pgF (t : Nat → UInt8) (n : Nat) : Option Nat := if (pgR t n).1.2.1 = none then jd t (pgR t n).2 else (pgR t n).1.2.1
/-- a kept PROGRAM in the class's draft rows -/
def KPx (t : Nat → UInt8) (D : List FD) (σ : fkS) : Prop := CR (cGd t D D 0) σ ∧ dR t D σ ∧ σ.1 75 0 = nI D.length
def fkPX (c j : Nat) : Bool := (Nat.ble 75 c && Nat.ble c 97) || (Nat.beq c 0 && Nat.beq j 1)
section XP
variable {t : Nat → UInt8} {n d : Nat} {σ : fkS} {Q : Option Value → fkS → Prop}
theorem fkPX_of {c j : Nat} (h1 : 75 ≤ c) (h2 : c ≤ 97) : fkPX c j = true := by
  unfold fkPX
  rw [Nat.ble_eq.mpr h1, Nat.ble_eq.mpr h2]
  rfl
/-- the class: what program answers, leaves -/
theorem c_program (hX : tX σ t n) (hn : n ≤ 4000) (hd : 244 ≤ d + 1) {k : Nat} (hk : k ≤ n) (h10 : σ.2.2 0 10 = 63) (h11 : σ.2.2 0 11 = 76)
    (q0 : k = 0 → Q (some (.int (0 : Int32))) σ)
    (q1 : ∀ a σ', 1 ≤ k → pgF t k = some a → a ≤ 4000 → Fr fkPX σ σ' → σ'.1 0 1 = 0 → Q (some (.int ((-1 : Int32) - nI a))) σ')
    (q2 : ∀ σ', 1 ≤ k → pgF t k = none → (pgR t k).1.2.1 = none → Fr fkPX σ σ' → σ'.1 0 1 = 0 → KPx t (pgR t k).2 σ' → Q (some (.int (nI (pgR t k).2.length))) (sR (sR σ' 0 10 76) 0 11 63)) : Cl (d + 9) 142 [.ref 0, .int (nI k)] σ Q := by
  obtain ⟨x1, x2⟩ := hX
  refine S_X_program (d := d + 8) h11 ⟨fun y => ?_, fun y => ?_⟩
  · have k0 : k = 0 := by
      rcases Nat.eq_zero_or_pos k with c | c
      · exact c
      · exact absurd y (nI_nlt (a := k) (b := 1) c (by omega))
    exact q0 k0
  · have k1 : 1 ≤ k := by
      rcases Nat.eq_zero_or_pos k with c | c
      · subst c; exact absurd (by decide) y
      · exact c
    rw [x1]
    refine ⟨fun _ => ⟨by decide, ?_⟩, fun y => absurd (nI_le hk (by omega)) y⟩
    have hk4 : k ≤ 4000 := by omega
    refine (x_parse2 (d := d) (t := t) (n := k) hk4 hd (σ := sI σ 0 1 (0 : Int32)) (fun i hi => (congrFun (sI_o (by decide)) i).trans (x2 i (by omega)))).mono fun v σ1 hx => ?_
    obtain ⟨v1, rfl, hv, hb, hr, hf, hP⟩ := Qi_s hx
    have f0 : Fr fkPX σ (sI σ 0 1 (0 : Int32)) := Fr.rf.sI rfl
    have f1 : Fr fkPX σ σ1 := f0.tr (hf.mono fun c j z => by
      unfold fkPZ at z
      simp only [Bool.and_eq_true, Nat.ble_eq] at z
      exact fkPX_of z.1 (by omega))
    have e01 : σ1.1 0 1 = 0 := (hf 0 1 rfl).1.trans sI_ss
    have r10 : σ1.2.2 0 10 = 63 := (f1 0 10 rfl).2.2.trans h10
    have r11 : σ1.2.2 0 11 = 76 := (f1 0 11 rfl).2.2.trans h11
    subst hv
    have fl := flt_lt hb
    refine S_X_program_36 (d := d + 8) r11 ⟨fun y => ?_, fun y => ⟨by decide, ?_⟩⟩
    · have ne := fl.1.mp y
      cases ha : (pPg t k 20 (0, none, 0) []).1.2.1 with
      | none => exact absurd ha ne
      | some a =>
        have eF : pgF t k = some a := by
          unfold pgF pgR
          rw [ha, if_neg (by simp)]
        have a4 := hb a ha
        refine S_X_program_53 (d := d + 8) r10 r11 ⟨fun y => absurd y (nI_pos (by omega)), fun _ => ?_⟩
        exact q1 a σ1 k1 eF a4 f1 e01
    · have w0 : (pPg t k 20 (0, none, 0) []).1.2.1 = none := Classical.byContradiction fun c => y (fl.1.mpr c)
      obtain ⟨p1, p2, p3⟩ := hP w0
      obtain ⟨-, g2, g3, g4, g5⟩ := pPg_inv hk4 20 _ _ w0 (fun _ => ⟨(fun q hq => by cases hq), Nat.le_refl _, Nat.zero_le _, Nat.le_refl _⟩) (Or.inr (by decide))
      have eF : pgF t k = jd t (pgR t k).2 := by
        unfold pgF pgR
        rw [if_pos w0]
      refine x_fault (d := d + 2) hk4 g3 g4 g2 p1 p2 p3 fun σ2 hN => ?_
      have f2 : Fr fkPX σ1 σ2 := by
        have fa : Fr fkPX σ1 (sI (sR σ1 93 0 76) 93 8 (-1 : Int32)) := (Fr.rf.sR (fkPX_of (by decide) (by decide))).sI (fkPX_of (by decide) (by decide))
        refine fa.tr (hN.1.2.2.2.2.2.2.2.mono fun c j z => ?_)
        unfold fkCC at z
        simp only [Bool.or_eq_true, Bool.and_eq_true, Nat.ble_eq, Nat.beq_eq] at z
        exact fkPX_of (by omega) (by omega)
      have e2 : σ2.1 0 1 = 0 := by
        have : Fr (fun c _ => Nat.ble 75 c) σ1 σ2 := by
          refine ((Fr.rf.sR rfl).sI rfl : Fr (fun c _ => Nat.ble 75 c) σ1 (sI (sR σ1 93 0 76) 93 8 (-1 : Int32))).tr (hN.1.2.2.2.2.2.2.2.mono fun c j z => ?_)
          unfold fkCC at z
          simp only [Bool.or_eq_true, Bool.and_eq_true, Nat.ble_eq, Nat.beq_eq] at z
          exact Nat.ble_eq.mpr (by omega)
        exact (this 0 1 rfl).1.trans e01
      have s10 : σ2.2.2 0 10 = 63 := (f2 0 10 rfl).2.2.trans r10
      have s11 : σ2.2.2 0 11 = 76 := (f2 0 11 rfl).2.2.trans r11
      have fl2 := flt_lt hN.2.2
      cases hj : jd t (pPg t k 20 (0, none, 0) []).2 with
      | none =>
        refine S_X_program_53 (d := d + 8) s10 s11 ⟨fun _ => ⟨by decide, by decide, by decide, ?_⟩, fun y => absurd (by decide) y⟩
        rw [hN.1.2.2.1]
        exact q2 σ2 k1 (eF.trans hj) w0 (f1.tr f2) e2 ⟨hN.1.1, hN.1.2.1, hN.1.2.2.1⟩
      | some a =>
        have a4 := hN.2.2 a hj
        refine S_X_program_53 (d := d + 8) s10 s11 ⟨fun y => absurd y (nI_pos (by omega)), fun _ => ?_⟩
        exact q1 a σ2 k1 (eF.trans hj) a4 (f1.tr f2) e2
end XP
