/-! what is expected: TOKEN i, the fault so far -/
def flt (w : Option Nat) : Int32 := match w with
  | none => -1
  | some a => nI a
/-- goes on behind TOKEN i if it fits, else the fault is there -/
def exK (t : Nat → UInt8) (n : Nat) (b : Bool) (i : Nat) (w : Option Nat) : Nat × Option Nat := if w = none ∧ b = true then (i + 1, none) else (i, some (w.getD (tkAt t n i).2.1))
theorem flt_lt {w : Option Nat} (hw : ∀ a, w = some a → a ≤ 4000) : (0 ≤ flt w ↔ ¬ w = none) ∧ (flt w < 0 ↔ w = none) := by
  cases w with
  | none => exact ⟨⟨fun z => absurd z (by decide), fun z => absurd rfl z⟩, ⟨fun _ => rfl, fun _ => by decide⟩⟩
  | some a =>
    have := hw a rfl
    have h0 := nI_pos (n := a) (by omega)
    exact ⟨⟨fun _ z => (by cases z), fun _ => Int32.not_lt.mp h0⟩, ⟨fun z => absurd z h0, fun z => (by cases z)⟩⟩
section EX
variable {d n i : Nat} {t : Nat → UInt8} {σ : fkS} {w : Option Nat}
/-- the class: at TOKEN i with the fault w -/
def EX (t : Nat → UInt8) (n i : Nat) (w : Option Nat) (σ : fkS) : Prop := AtX t n i σ ∧ σ.1 88 13 = flt w ∧ n ≤ 4000 ∧ ∀ a, w = some a → a ≤ 4000
def fkPE (c j : Nat) : Bool := fkPA c j || (Nat.beq c 88 && Nat.beq j 13)
theorem AtX.fg {σ' : fkS} {S : Nat → Nat → Bool} (h : AtX t n i σ) (hf : Fr S σ σ') (h7 : S 88 7 = false) (h8 : S 88 8 = false) (h9 : S 88 9 = false) (h10 : S 88 10 = false) (h11 : S 88 11 = false) (h90 : ∀ j, S 90 j = false) (h91 : ∀ j, S 91 j = false) (h92 : ∀ j, S 92 j = false) : AtX t n i σ' := by
  obtain ⟨hT, j, a1, a2, a3, a4, a5⟩ := h
  refine ⟨hT.fg hf h7 h90 h91 h92, j, a1, (hf 88 8 h8).1.trans a2, (hf 88 9 h9).1.trans a3, (hf 88 10 h10).1.trans a4, ?_⟩
  rw [(hf 88 11 h11).2.1]
  exact a5
theorem p_fine (h : EX t n i w σ) : Di d 183 [.ref 88] σ (fun x s => s = σ ∧ x = if w = none then 1 else 0) := by
  have hw := flt_lt h.2.2.2
  refine S_Parser_fine ?_
  rw [h.2.1]
  refine ⟨fun z => ⟨rfl, rfl, ?_⟩, fun z => ⟨rfl, rfl, ?_⟩⟩
  · rw [if_neg (hw.1.mp z)]
  · rw [if_pos (Classical.byContradiction fun c => z (hw.1.mpr c))]
theorem p_fail (h : EX t n i w σ) : Dv d 186 [.ref 88] σ (fun s => Fr fkPE σ s ∧ EX t n i (some (w.getD (tkAt t n i).2.1)) s) := by
  have hw := flt_lt h.2.2.2
  obtain ⟨hA, h13, hn, h4⟩ := h
  have hat : σ.1 88 10 = nI (tkAt t n i).2.1 := by
    obtain ⟨-, j, -, -, -, a, -⟩ := hA
    exact a
  have hle := tkAt_le (t := t) (n := n) i
  refine S_Parser_fail ?_
  rw [h13]
  refine ⟨fun z => ?_, fun z => ?_⟩
  · cases w with
    | none => exact absurd z (by decide)
    | some a => exact ⟨rfl, Fr.rf, hA, h13, hn, fun b hb => by have := h4 a rfl; cases hb; exact this⟩
  · cases w with
    | some a => exact absurd (hw.1.mpr (by simp)) z
    | none =>
      rw [hat]
      have f0 : Fr (fun c j => Nat.beq c 88 && Nat.beq j 13) σ (sI σ 88 13 (nI (tkAt t n i).2.1)) := Fr.rf.sI rfl
      exact ⟨rfl, Fr.rf.sI rfl, hA.fg f0 rfl rfl rfl rfl rfl (fun _ => rfl) (fun _ => rfl) (fun _ => rfl), sI_ss, hn, fun b hb => by cases hb; show (tkAt t n i).2.1 ≤ 4000; omega⟩
theorem p_step (h : EX t n i none σ) : Dv d 182 [.ref 88] σ (fun s => Fr fkPE σ s ∧ EX t n (i + 1) none s) := by
  refine (p_adv h.2.2.1 h.1).mono fun x s hx => ?_
  obtain ⟨rfl, g0, g1, g2⟩ := Qv_s hx
  exact ⟨g0, g1.mono fun c j q => by unfold fkPE; rw [q]; rfl, g2, (g1 88 13 rfl).1.trans h.2.1, h.2.2⟩
theorem EX.kind (h : EX t n i w σ) : σ.1 88 9 = kX t (tkAt t n i) := by
  obtain ⟨⟨-, j, -, -, a, -, -⟩, -⟩ := h
  exact a
/-- the class expects a TOKEN -/
theorem p_expect {k : Int32} (h : EX t n i w σ) : Dv (d + 1) 185 [.ref 88, .int k] σ (fun s => Fr fkPE σ s ∧ EX t n (exK t n (decide (kX t (tkAt t n i) = k)) i w).1 (exK t n (decide (kX t (tkAt t n i) = k)) i w).2 s) := by
  refine S_Parser_expect ((p_fine h).mono fun x s hx => ?_)
  obtain ⟨v, rfl, g0, rfl, rfl⟩ := Qi_s hx
  refine ⟨g0, ?_⟩
  simp only [sW_eq g0]
  rw [h.kind]
  cases w with
  | some a =>
    have e : exK t n (decide (kX t (tkAt t n i) = k)) i (some a) = (i, some a) := by unfold exK; rw [if_neg (fun z => by cases z.1)]; rfl
    rw [e]
    exact ⟨fun z => absurd rfl z, fun _ => ⟨rfl, Fr.rf, h⟩⟩
  | none =>
    refine ⟨fun _ => ⟨fun z => ?_, fun z => ?_⟩, fun z => absurd z (by decide)⟩
    · have e : exK t n (decide (kX t (tkAt t n i) = k)) i none = (i + 1, none) := by unfold exK; rw [if_pos ⟨rfl, decide_eq_true z⟩]
      rw [e]
      refine (p_step h).mono fun x s2 hx => ?_
      obtain ⟨rfl, g1, g2, g3⟩ := Qv_s hx
      refine ⟨g1, ?_⟩
      show (sW s2 s).2.2 = s.2.2 ∧ Fr fkPE s (sW s2 s) ∧ EX t n (i + 1) none (sW s2 s)
      rw [sW_eq g1]
      exact ⟨g1, g2, g3⟩
    · have e : exK t n (decide (kX t (tkAt t n i) = k)) i none = (i, some (tkAt t n i).2.1) := by unfold exK; rw [if_neg (fun y => z (of_decide_eq_true y.2))]; rfl
      rw [e]
      refine (p_fail h).mono fun x s2 hx => ?_
      obtain ⟨rfl, g1, g2, g3⟩ := Qv_s hx
      refine ⟨g1, ?_⟩
      show (sW s2 s).2.2 = s.2.2 ∧ Fr fkPE s (sW s2 s) ∧ EX t n i (some (tkAt t n i).2.1) (sW s2 s)
      rw [sW_eq g1]
      exact ⟨g1, g2, g3⟩
/-- the reference: at TOKEN i with the fault w -/
def EM (t : Nat → UInt8) (n i : Nat) (w : Option Nat) (σ : fkS) : Prop := AtM t n i σ ∧ σ.1 103 81 = flt w ∧ n ≤ 4000 ∧ ∀ a, w = some a → a ≤ 4000
def fkME (c j : Nat) : Bool := fkMS c j || (Nat.beq c 103 && Nat.beq j 81)
theorem TkM.fg {σ' : fkS} {q : Nat × Nat × Nat × Nat} {S : Nat → Nat → Bool} (h : TkM t q σ) (hf : Fr S σ σ') (h80 : S 103 80 = false) (h82 : S 103 82 = false) (h83 : S 103 83 = false) (h84 : S 103 84 = false) (h85 : S 103 85 = false) : TkM t q σ' := by
  obtain ⟨a1, a2, a3, a4, a5, a6⟩ := h
  refine ⟨(hf _ _ h82).1.trans a1, (hf _ _ h83).1.trans a2, (hf _ _ h80).1.trans a3, fun z => (hf _ _ h84).1.trans (a4 z), fun z => ?_, fun z => ?_⟩
  · rw [(hf _ _ h85).2.1]; exact a5 z
  · rw [(hf _ _ h85).2.1]; exact a6 z
theorem m_wrong (h : EM t n i w σ) : Cv d 332 [.ref 103, .int (nI (tkAt t n i).2.1)] σ (fun s => Fr fkME σ s ∧ EM t n i (some (w.getD (tkAt t n i).2.1)) s) := by
  have hw := flt_lt h.2.2.2
  obtain ⟨hA, h13, hn, h4⟩ := h
  have hle := tkAt_le (t := t) (n := n) i
  refine S_M_wrong ?_
  rw [h13]
  refine ⟨fun z => ?_, fun z => ?_⟩
  · cases w with
    | none => exact absurd z (by decide)
    | some a => exact ⟨Fr.rf, hA, h13, hn, fun b hb => by have := h4 a rfl; cases hb; exact this⟩
  · cases w with
    | some a => exact absurd (hw.1.mpr (by simp)) z
    | none =>
      have f0 : Fr (fun c j => Nat.beq c 103 && Nat.beq j 81) σ (sI σ 103 81 (nI (tkAt t n i).2.1)) := Fr.rf.sI rfl
      exact ⟨Fr.rf.sI rfl, ⟨hA.1.fr f0 (fun _ => rfl) rfl, hA.2.fg f0 rfl rfl rfl rfl rfl⟩, sI_ss, hn, fun b hb => by cases hb; show (tkAt t n i).2.1 ≤ 4000; omega⟩
theorem m_step (h : EM t n i none σ) : Cv (d + 4) 325 [.ref 103] σ (fun s => Fr fkME σ s ∧ EM t n (i + 1) none s) := by
  refine (m_adv h.1).mono fun x s hx => ?_
  obtain ⟨rfl, g1, g2⟩ := Qv_s hx
  exact ⟨g1.mono fun c j q => by unfold fkME; rw [q]; rfl, g2, (g1 103 81 rfl).1.trans h.2.1, h.2.2⟩
/-- goes on or notes the fault, as the answer says -/
theorem m_goOr {b : Bool} {Q : Option Value → fkS → Prop} {x : Int32} (h : EM t n i w σ) (hx : x = if w = none ∧ b = true then 1 else 0) (hQ : ∀ s, Fr fkME σ s → EM t n (exK t n b i w).1 (exK t n b i w).2 s → Q none s) :
    (x = 0 → Cv (d + 4) 332 [.ref 103, .int (σ.1 103 83)] σ (fun σ3 => Q none σ3)) ∧ (¬ x = 0 → Cv (d + 4) 325 [.ref 103] σ (fun σ4 => Q none σ4)) := by
  subst hx
  by_cases c : w = none ∧ b = true
  · rw [if_pos c]
    have e : exK t n b i w = (i + 1, none) := by unfold exK; rw [if_pos c]
    rw [e] at hQ
    refine ⟨fun z => absurd z (by decide), fun _ => ?_⟩
    have h' := h
    rw [c.1] at h'
    refine (m_step h').mono fun x s hx => ?_
    obtain ⟨rfl, g1, g2⟩ := Qv_s hx
    exact hQ s g1 g2
  · rw [if_neg c]
    have e : exK t n b i w = (i, some (w.getD (tkAt t n i).2.1)) := by unfold exK; rw [if_neg c]
    rw [e] at hQ
    refine ⟨fun _ => ?_, fun z => absurd rfl z⟩
    rw [h.1.2.2.1]
    refine (m_wrong h).mono fun x s hx => ?_
    obtain ⟨rfl, g1, g2⟩ := Qv_s hx
    exact hQ s g1 g2
theorem m_isSign {c : Nat} (h : EM t n i w σ) (hc : c < 256) : Ci d 336 [.ref 103, .int (nI c)] σ (fun x s => s = σ ∧ x = if w = none ∧ decide ((tkAt t n i).1 = 3 ∧ sM (tkAt t n i).2.2.2 = c) = true then 1 else 0) := by
  have hw := flt_lt h.2.2.2
  have hk4 := tkAt_k4 (t := t) (n := n) i
  refine S_M_isSign ?_
  rw [h.2.1, h.1.2.1]
  have k3 : mK (tkAt t n i) = 3 ↔ (tkAt t n i).1 = 3 := by
    unfold mK
    by_cases q : (tkAt t n i).1 = 4
    · rw [if_pos q]; exact ⟨fun z => absurd z (by decide), fun z => by omega⟩
    · rw [if_neg q]; exact nI_eq (b := 3) (by omega) (by decide)
  refine ⟨fun z => ⟨rfl, ?_⟩, fun z => ⟨fun z2 => ⟨rfl, ?_⟩, fun z2 => ?_⟩⟩
  · rw [if_neg (fun y => hw.1.mp z y.1)]
  · rw [if_neg (fun y => z2 (k3.mpr (of_decide_eq_true y.2).1))]
  · have q3 := k3.mp z2
    have hs : sM (tkAt t n i).2.2.2 < 256 := by
      obtain ⟨p, hp, e⟩ := tkAt_to (t := t) (n := n) i
      rw [e]
      have key : ∀ p, (tok t n p).2.2.2 < 256 := by
        intro p
        unfold tok tokA
        have h5 := tbt_le t n (runP cB t n p)
        have h6 := sgs_bt.2.2
        simp only
        repeat' split
        all_goals first | exact (show (0 : Nat) < 256 by decide) | exact (show (128 : Nat) < 256 by decide) | exact (show (129 : Nat) < 256 by decide) | (rename_i z; exact Nat.lt_of_lt_of_le (h6 _ z) (by decide))
      have := key p
      unfold sM
      repeat' split
      all_goals omega
    rw [h.1.2.2.2.2.2.2 q3, nI_l (by omega), lg_eq]
    refine ⟨fun z3 => ⟨rfl, ?_⟩, fun z3 => ⟨rfl, ?_⟩⟩
    · rw [if_neg (fun y => z3 (by rw [(of_decide_eq_true y.2).2]))]
    · rw [if_pos ⟨Classical.byContradiction fun y => z (hw.1.mpr y), decide_eq_true ⟨q3, (lN_eq (by omega) (by omega)).mp z3⟩⟩]
/-- the reference expects a sign -/
theorem m_sign {c : Nat} (h : EM t n i w σ) (hc : c < 256) : Cv (d + 5) 335 [.ref 103, .int (nI c)] σ (fun s => Fr fkME σ s ∧ EM t n (exK t n (decide ((tkAt t n i).1 = 3 ∧ sM (tkAt t n i).2.2.2 = c)) i w).1 (exK t n (decide ((tkAt t n i).1 = 3 ∧ sM (tkAt t n i).2.2.2 = c)) i w).2 s) := by
  refine S_M_sign ((m_isSign h hc).mono fun x s hx => ?_)
  obtain ⟨v, rfl, rfl, hv⟩ := Qi_s hx
  exact m_goOr h hv fun s g1 g2 => ⟨g1, g2⟩
/-- the reference expects a keyword -/
theorem m_word {l : Nat} {kw : List Nat} (hl : l < fk_nL) (hkw : fk_bt l = kw.map nI) (hb : ∀ c ∈ kw, c < 256) (h : EM t n i w σ) : Cv (d + 5) 330 [.ref 103, .ref (2000 + l)] σ (fun s => Fr fkME σ s ∧ EM t n (exK t n (decide ((tkAt t n i).1 = 1 ∧ tw t (tkAt t n i).2.1 (tkAt t n i).2.2.1 = kw)) i w).1 (exK t n (decide ((tkAt t n i).1 = 1 ∧ tw t (tkAt t n i).2.1 (tkAt t n i).2.2.1 = kw)) i w).2 s) := by
  have hw := flt_lt h.2.2.2
  refine S_M_word ((m_isWord hl hkw hb h.1.1 h.1.2 (tkAt_k4 i) (tkAt_le i).1 (tkAt_le i).2).mono fun x s hx => ?_)
  obtain ⟨v, rfl, rfl, hv⟩ := Qi_s hx
  refine m_goOr h (hv.trans ?_) fun s g1 g2 => ⟨g1, g2⟩
  rw [h.2.1]
  by_cases c : (tkAt t n i).1 = 1 ∧ tw t (tkAt t n i).2.1 (tkAt t n i).2.2.1 = kw
  · rw [decide_eq_true c]
    by_cases c2 : w = none
    · rw [if_pos ⟨hw.2.mpr c2, c⟩, if_pos ⟨c2, rfl⟩]
    · rw [if_neg (fun y => c2 (hw.2.mp y.1)), if_neg (fun y => c2 y.1)]
  · rw [decide_eq_false c, if_neg (fun y => c y.2), if_neg (fun y => absurd y.2 (by decide))]
end EX
