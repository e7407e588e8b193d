/-! a TYPE, both sides -/
/-- 1 int, 2 list, 3 act; 0: there is none -/
def tyV (t : Nat → UInt8) (n i : Nat) (w : Option Nat) : Nat := if w = none then (if kX t (tkAt t n i) = nI 15 then 1 else if kX t (tkAt t n i) = nI 16 then 2 else if kX t (tkAt t n i) = nI 17 then 3 else 0) else 0
section TY
variable {d n i : Nat} {t : Nat → UInt8} {σ : fkS} {w : Option Nat}
theorem kX_nat (i : Nat) : ∃ k, k < 256 ∧ kX t (tkAt t n i) = nI k := by
  rcases kX_cases (t := t) (n := n) i with ⟨c, e⟩ | ⟨c, e⟩ | ⟨c, e⟩ | ⟨c, e⟩ | ⟨c, e⟩
  · exact ⟨0, by omega, e⟩
  · obtain ⟨k, hk, e2, -⟩ := kw_kind (tw t (tkAt t n i).2.1 (tkAt t n i).2.2.1)
    exact ⟨k, by omega, e.trans e2⟩
  · exact ⟨2, by omega, e⟩
  · exact ⟨_, (tkAt_sgb c).2, e⟩
  · exact ⟨3, by omega, e⟩
theorem exK_no {i : Nat} {w : Option Nat} : exK t n false i w = (i, some (w.getD (tkAt t n i).2.1)) := by
  unfold exK
  rw [if_neg (fun z => absurd z.2 (by decide))]
theorem exK_some {i a : Nat} {b : Bool} : exK t n b i (some a) = (i, some a) := by
  unfold exK
  rw [if_neg (fun z => by cases z.1)]
  rfl
theorem exK_yes {i : Nat} : exK t n true i none = (i + 1, none) := by
  unfold exK
  rw [if_pos ⟨rfl, rfl⟩]
theorem p_type (h : EX t n i w σ) : Di (d + 1) 187 [.ref 88] σ (fun x s => Fr fkPE σ s ∧ x = nI (tyV t n i w) ∧ EX t n (exK t n (decide (¬ tyV t n i w = 0)) i w).1 (exK t n (decide (¬ tyV t n i w = 0)) i w).2 s) := by
  obtain ⟨k, hk, ek⟩ := kX_nat (t := t) (n := n) i
  refine S_Parser_type ((p_fine h).mono fun x s hx => ?_)
  obtain ⟨v, rfl, g0, rfl, rfl⟩ := Qi_s hx
  refine ⟨g0, ?_⟩
  simp only [sW_eq g0]
  rw [h.kind, ek]
  have bad : tyV t n i w = 0 → Dv d 186 [.ref 88] s (fun s4 => Qi (fun x s' => s'.2.2 = s.2.2 ∧ Fr fkPE s s' ∧ x = nI (tyV t n i w) ∧ EX t n (exK t n (decide (¬ tyV t n i w = 0)) i w).1 (exK t n (decide (¬ tyV t n i w = 0)) i w).2 s') (some (.int (0 : Int32))) (sW s4 s)) := by
    intro e
    rw [e, show decide (¬ (0 : Nat) = 0) = false from rfl, exK_no]
    refine (p_fail h).mono fun x s2 hx => ?_
    obtain ⟨rfl, g1, g2, g3⟩ := Qv_s hx
    refine ⟨g1, ?_⟩
    show (sW s2 s).2.2 = s.2.2 ∧ Fr fkPE s (sW s2 s) ∧ (0 : Int32) = nI 0 ∧ EX t n i (some (w.getD (tkAt t n i).2.1)) (sW s2 s)
    rw [sW_eq g1]
    exact ⟨g1, g2, rfl, g3⟩
  have nk : ∀ a : Nat, a < 256 → (nI k = nI a ↔ k = a) := fun a ha => nI_eq (by omega) (by omega)
  refine ⟨fun z => bad ?_, fun z => ?_⟩
  · unfold tyV
    rw [if_neg (fun c => by rw [if_pos c] at z; exact absurd z (by decide))]
  · have hw : w = none := Classical.byContradiction fun c => z (by rw [if_neg c])
    subst hw
    refine ⟨fun z2 => bad ?_, fun z2 => ⟨fun z3 => ?_, fun z3 => bad ?_⟩⟩
    · have c : k < 15 := by
        rcases Nat.lt_or_ge k 15 with c | c
        · exact c
        · exact absurd z2 (nI_nlt (b := 15) c (by omega))
      unfold tyV
      rw [if_pos rfl, ek, if_neg (fun y => by have := (nk 15 (by omega)).mp y; omega), if_neg (fun y => by have := (nk 16 (by omega)).mp y; omega), if_neg (fun y => by have := (nk 17 (by omega)).mp y; omega)]
    · have c1 : 15 ≤ k := by
        rcases Nat.lt_or_ge k 15 with c | c
        · exact absurd (nI_lt (b := 15) c (by decide)) z2
        · exact c
      have c2 : k ≤ 17 := by
        rcases Nat.lt_or_ge 17 k with c | c
        · exact absurd z3 (nI_ge (a := 17) c (by omega))
        · exact c
      have e : tyV t n i none = k - 14 := by
        unfold tyV
        rw [if_pos rfl, ek]
        rcases (show k = 15 ∨ k = 16 ∨ k = 17 by omega) with rfl | rfl | rfl
        · rw [if_pos rfl]
        · rw [if_neg (fun y => absurd ((nk 15 (by omega)).mp y) (by decide)), if_pos rfl]
        · rw [if_neg (fun y => absurd ((nk 15 (by omega)).mp y) (by decide)), if_neg (fun y => absurd ((nk 16 (by omega)).mp y) (by decide)), if_pos rfl]
      rw [e, decide_eq_true (show ¬ k - 14 = 0 by omega), exK_yes]
      refine (p_step h).mono fun x s2 hx => ?_
      obtain ⟨rfl, g1, g2, g3⟩ := Qv_s hx
      refine ⟨g1, ?_⟩
      show (sW s2 s).2.2 = s.2.2 ∧ Fr fkPE s (sW s2 s) ∧ nI k - 15 + 1 = nI (k - 14) ∧ EX t n (i + 1) none (sW s2 s)
      rw [sW_eq g1]
      refine ⟨g1, g2, ?_, g3⟩
      rw [show (15 : Int32) = nI 15 from rfl, nI_sub c1, show (1 : Int32) = nI 1 from rfl, nI_add]
      congr 1
      omega
    · have c2 : 17 < k := by
        rcases Nat.lt_or_ge 17 k with c | c
        · exact c
        · exact absurd (nI_le (b := 17) c (by decide)) z3
      unfold tyV
      rw [if_pos rfl, ek, if_neg (fun y => by have := (nk 15 (by omega)).mp y; omega), if_neg (fun y => by have := (nk 16 (by omega)).mp y; omega), if_neg (fun y => by have := (nk 17 (by omega)).mp y; omega)]
theorem isKd_n {k : Int32} {w : Option Nat} : isKd t n i w k = 0 ↔ ¬ (w = none ∧ kX t (tkAt t n i) = k) := by
  unfold isKd
  by_cases c : w = none ∧ kX t (tkAt t n i) = k
  · rw [if_pos ⟨c.1, decide_eq_true c.2⟩]
    exact ⟨fun z => absurd z (by decide), fun z => absurd c z⟩
  · rw [if_neg (fun y => c ⟨y.1, of_decide_eq_true y.2⟩)]
    exact ⟨fun _ => c, fun _ => rfl⟩
theorem m_typeK (h : EM t n i w σ) : Ci (d + 5) 337 [.ref 103] σ (fun x s => Fr fkME σ s ∧ x = nI (tyV t n i w) ∧ EM t n (exK t n (decide (¬ tyV t n i w = 0)) i w).1 (exK t n (decide (¬ tyV t n i w = 0)) i w).2 s) := by
  have k1 : kX t (tkAt t n i) = nI 15 → ¬ kX t (tkAt t n i) = nI 16 := fun a b => absurd (a.symm.trans b) (by decide)
  have go : ∀ v : Nat, tyV t n i w = v → ¬ v = 0 → Cv (d + 4) 325 [.ref 103] σ (fun s => Qi (fun x s => Fr fkME σ s ∧ x = nI (tyV t n i w) ∧ EM t n (exK t n (decide (¬ tyV t n i w = 0)) i w).1 (exK t n (decide (¬ tyV t n i w = 0)) i w).2 s) (some (.int (nI v))) s) := by
    intro v hv h0
    have hw : w = none := Classical.byContradiction fun c => h0 (by rw [← hv]; unfold tyV; rw [if_neg c])
    subst hw
    rw [hv, decide_eq_true h0, exK_yes]
    refine (m_step h).mono fun x s hx => ?_
    obtain ⟨rfl, g1, g2⟩ := Qv_s hx
    exact ⟨g1, rfl, g2⟩
  refine S_M_typeWord ((m_isKw (d := d) (j := 11) (by decide) h).mono fun x s hx => ?_)
  obtain ⟨v, rfl, rfl, hv⟩ := Qi_s hx
  refine ⟨fun z => ?_, fun z => ⟨fun _ => ?_, fun y => absurd y (by decide)⟩⟩
  · rw [hv] at z
    have n1 := isKd_n.mp z
    refine (m_isKw (d := d) (j := 12) (by decide) h).mono fun x s hx => ?_
    obtain ⟨v, rfl, rfl, hv⟩ := Qi_s hx
    refine ⟨fun z => ?_, fun z => ⟨fun _ => ?_, fun y => absurd y (by decide)⟩⟩
    · rw [hv] at z
      have n2 := isKd_n.mp z
      refine (m_isKw (d := d) (j := 13) (by decide) h).mono fun x s hx => ?_
      obtain ⟨v, rfl, rfl, hv⟩ := Qi_s hx
      refine ⟨fun z => ⟨fun y => absurd rfl y, fun _ => ?_⟩, fun z => ⟨fun _ => ?_, fun y => absurd y (by decide)⟩⟩
      · rw [hv] at z
        have n3 := isKd_n.mp z
        have e : tyV t n i w = 0 := by
          unfold tyV
          by_cases c : w = none
          · rw [if_pos c, if_neg (fun y => n1 ⟨c, y⟩), if_neg (fun y => n2 ⟨c, y⟩), if_neg (fun y => n3 ⟨c, y⟩)]
          · rw [if_neg c]
        rw [e, show decide (¬ (0 : Nat) = 0) = false from rfl, exK_no, h.1.2.2.1]
        refine (m_wrong h).mono fun x s hx => ?_
        obtain ⟨rfl, g1, g2⟩ := Qv_s hx
        exact ⟨g1, rfl, g2⟩
      · rw [hv] at z
        have y3 := Classical.not_not.mp (fun y => z (isKd_n.mpr y))
        refine go 3 ?_ (by decide)
        unfold tyV
        rw [if_pos y3.1, if_neg (fun y => n1 ⟨y3.1, y⟩), if_neg (fun y => n2 ⟨y3.1, y⟩), if_pos y3.2]
    · rw [hv] at z
      have y2 := Classical.not_not.mp (fun y => z (isKd_n.mpr y))
      refine go 2 ?_ (by decide)
      unfold tyV
      rw [if_pos y2.1, if_neg (fun y => n1 ⟨y2.1, y⟩), if_pos y2.2]
  · rw [hv] at z
    have y1 := Classical.not_not.mp (fun y => z (isKd_n.mpr y))
    refine go 1 ?_ (by decide)
    unfold tyV
    rw [if_pos y1.1, if_pos y1.2]
end TY
