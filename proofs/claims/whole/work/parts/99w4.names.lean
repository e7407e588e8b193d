/-! signs, keywords, NAMES, TYPES: both sides by the class's kind -/
/-- which constant of the reference is keyword j -/
def kwL (j : Nat) : Nat := [3, 8, 9, 10, 11, 12, 13, 14, 15, 16, 17, 5, 6, 7].getD j 0
theorem kwL_all : (List.range 14).all (fun j => decide (fk_bt (kwL j) = (kws.getD j []).map nI ∧ kwL j < fk_nL ∧ ∀ c ∈ kws.getD j [], c < 256)) = true := by decide +kernel
theorem kwL_at {j : Nat} (hj : j < 14) : fk_bt (kwL j) = (kws.getD j []).map nI ∧ kwL j < fk_nL ∧ ∀ c ∈ kws.getD j [], c < 256 := of_decide_eq_true (List.all_eq_true.mp kwL_all j (List.mem_range.mpr hj))
theorem sM_lt : (128 :: 129 :: sgs).all (fun s => decide (sM s < 256)) = true := by decide +kernel
section KN
variable {d n i : Nat} {t : Nat → UInt8} {σ : fkS} {w : Option Nat}
/-- is TOKEN i of this kind, and no fault -/
def isKd (t : Nat → UInt8) (n i : Nat) (w : Option Nat) (k : Int32) : Int32 := if w = none ∧ decide (kX t (tkAt t n i) = k) = true then 1 else 0
theorem m_isSg {s : Nat} (hs : s ∈ 128 :: 129 :: sgs) (h : EM t n i w σ) : Ci d 336 [.ref 103, .int (nI (sM s))] σ (fun x s' => s' = σ ∧ x = isKd t n i w (nI s)) := by
  refine (m_isSign h (of_decide_eq_true (List.all_eq_true.mp sM_lt s hs))).mono fun x s' hx => ?_
  obtain ⟨v, rfl, rfl, hv⟩ := Qi_s hx
  refine ⟨rfl, hv.trans ?_⟩
  have e : decide ((tkAt t n i).1 = 3 ∧ sM (tkAt t n i).2.2.2 = sM s) = decide (kX t (tkAt t n i) = nI s) := decide_eq_decide.mpr (kX_sign hs).symm
  rw [e]
  rfl
theorem m_signK {s : Nat} (hs : s ∈ 128 :: 129 :: sgs) (h : EM t n i w σ) : Cv (d + 5) 335 [.ref 103, .int (nI (sM s))] σ (fun s' => Fr fkME σ s' ∧ EM t n (exK t n (decide (kX t (tkAt t n i) = nI s)) i w).1 (exK t n (decide (kX t (tkAt t n i) = nI s)) i w).2 s') := by
  have e : decide ((tkAt t n i).1 = 3 ∧ sM (tkAt t n i).2.2.2 = sM s) = decide (kX t (tkAt t n i) = nI s) := decide_eq_decide.mpr (kX_sign hs).symm
  rw [← e]
  exact m_sign h (of_decide_eq_true (List.all_eq_true.mp sM_lt s hs))
theorem m_isKw {j : Nat} (hj : j < 14) (h : EM t n i w σ) : Ci (d + 4) 331 [.ref 103, .ref (2000 + kwL j)] σ (fun x s' => s' = σ ∧ x = isKd t n i w (nI (4 + j))) := by
  have hw := flt_lt h.2.2.2
  obtain ⟨l1, l2, l3⟩ := kwL_at hj
  refine (m_isWord l2 l1 l3 h.1.1 h.1.2 (tkAt_k4 i) (tkAt_le i).1 (tkAt_le i).2).mono fun x s' hx => ?_
  obtain ⟨v, rfl, rfl, hv⟩ := Qi_s hx
  refine ⟨rfl, hv.trans ?_⟩
  rw [h.2.1]
  unfold isKd
  by_cases c : kX t (tkAt t n i) = nI (4 + j)
  · rw [decide_eq_true c]
    by_cases c2 : w = none
    · rw [if_pos ⟨hw.2.mpr c2, (kX_kw hj).mp c⟩, if_pos ⟨c2, rfl⟩]
    · rw [if_neg (fun y => c2 (hw.2.mp y.1)), if_neg (fun y => c2 y.1)]
  · rw [decide_eq_false c, if_neg (fun y => c ((kX_kw hj).mpr y.2)), if_neg (fun y => absurd y.2 (by decide))]
theorem m_wordK {j : Nat} (hj : j < 14) (h : EM t n i w σ) : Cv (d + 5) 330 [.ref 103, .ref (2000 + kwL j)] σ (fun s' => Fr fkME σ s' ∧ EM t n (exK t n (decide (kX t (tkAt t n i) = nI (4 + j))) i w).1 (exK t n (decide (kX t (tkAt t n i) = nI (4 + j))) i w).2 s') := by
  refine S_M_word ((m_isKw hj h).mono fun x s hx => ?_)
  obtain ⟨v, rfl, rfl, hv⟩ := Qi_s hx
  exact m_goOr h hv fun s g1 g2 => ⟨g1, g2⟩
def fkMN (c j : Nat) : Bool := fkME c j || (Nat.beq c 103 && (Nat.beq j 86 || Nat.beq j 87))
theorem Fr.mmn {σ σ' : fkS} (h : Fr fkME σ σ') : Fr fkMN σ σ' := h.mono fun c j q => by unfold fkMN; rw [q]; rfl
/-- a NAME: where it stands and its size are noted -/
theorem m_nameK (h : EM t n i w σ) : Cv (d + 5) 333 [.ref 103] σ (fun s' => Fr fkMN σ s' ∧ EM t n (exK t n (decide (kX t (tkAt t n i) = 1)) i w).1 (exK t n (decide (kX t (tkAt t n i) = 1)) i w).2 s' ∧ s'.1 103 86 = nI (tkAt t n i).2.1 ∧ ((tkAt t n i).1 = 1 → s'.1 103 87 = nI ((tkAt t n i).2.2.1 - (tkAt t n i).2.1))) := by
  have hw := flt_lt h.2.2.2
  have f0 : Fr (fun c j => Nat.beq c 103 && (Nat.beq j 86 || Nat.beq j 87)) σ (sI (sI σ 103 86 (σ.1 103 83)) 103 87 (σ.1 103 84)) := (Fr.rf.sI rfl).sI rfl
  have h' : EM t n i w (sI (sI σ 103 86 (σ.1 103 83)) 103 87 (σ.1 103 84)) := ⟨⟨h.1.1.fr f0 (fun _ => rfl) rfl, h.1.2.fg f0 rfl rfl rfl rfl rfl⟩, (f0 103 81 rfl).1.trans h.2.1, h.2.2⟩
  have e86 : (sI (sI σ 103 86 (σ.1 103 83)) 103 87 (σ.1 103 84)).1 103 86 = nI (tkAt t n i).2.1 := ((sI_so (by decide)).trans sI_ss).trans h.1.2.2.1
  have e87 : (tkAt t n i).1 = 1 → (sI (sI σ 103 86 (σ.1 103 83)) 103 87 (σ.1 103 84)).1 103 87 = nI ((tkAt t n i).2.2.1 - (tkAt t n i).2.1) := fun z => sI_ss.trans (h.1.2.2.2.2.1 z)
  have f1 : Fr fkMN σ (sI (sI σ 103 86 (σ.1 103 83)) 103 87 (σ.1 103 84)) := (Fr.rf.sI rfl).sI rfl
  refine S_M_name ?_
  generalize sI (sI σ 103 86 (σ.1 103 83)) 103 87 (σ.1 103 84) = s0 at h' e86 e87 f1 ⊢
  refine (m_isName h'.1.1 h'.1.2 (tkAt_k4 i) (tkAt_le i).1 (tkAt_le i).2).mono fun x s hx => ?_
  obtain ⟨v, rfl, rfl, hv1, hv0⟩ := Qi_s hx
  refine m_goOr (b := decide (kX t (tkAt t n i) = 1)) h' ?_ fun s2 g1 g2 => ⟨f1.tr g1.mmn, g2, (g1 103 86 rfl).1.trans e86, fun z => (g1 103 87 rfl).1.trans (e87 z)⟩
  rw [h'.2.1] at hv1 hv0
  by_cases c : kX t (tkAt t n i) = 1
  · rw [decide_eq_true c]
    have c3 := kX_name.mp c
    by_cases c2 : w = none
    · rw [if_pos ⟨c2, rfl⟩]
      exact hv1 ⟨hw.2.mpr c2, c3.1, c3.2⟩
    · rw [if_neg (fun y => c2 y.1)]
      exact hv0 (fun y => c2 (hw.2.mp y.1))
  · rw [decide_eq_false c, if_neg (fun y => absurd y.2 (by decide))]
    exact hv0 (fun y => c (kX_name.mpr y.2))
end KN
