/-! the class's numbers, words, signs -/
def fkPV (c j : Nat) : Bool := Nat.beq c 88 && (Nat.beq j 3 || Nat.beq j 9 || Nat.beq j 11)
theorem nvG_le {t : Nat → UInt8} : ∀ k i v, v ≤ 2147483648 → nvG t k i v ≤ 2147483648 := by
  intro k
  induction k with
  | zero => intro i v h; exact h
  | succ k ih => intro i v h; exact ih _ _ (Nat.min_le_right _ _)
theorem p_end {d n i v : Nat} {t : Nat → UInt8} {σ s : fkS} {Q : Option Value → fkS → Prop} (hv : v ≤ 2147483648) (h4 : s.2.1 88 11 = lN v) (hq : Q none (if v < 2147483648 then s else sI s 88 9 3)) :
    (((lg_cmp (s.2.1 88 11) (2147483647 : Int64)) ≤ 0 → Q none s) ∧ (¬ (lg_cmp (s.2.1 88 11) (2147483647 : Int64)) ≤ 0 → Q none (sI s 88 9 (3 : Int32)))) := by
  have e : lg_cmp (s.2.1 88 11) (2147483647 : Int64) ≤ 0 ↔ v < 2147483648 := by
    rw [h4, lg_le]
    have z : lN v ≤ lN 2147483647 ↔ v ≤ 2147483647 := pk_lLE (by omega) (by omega)
    rw [show (2147483647 : Int64) = lN 2147483647 from rfl, z]
    omega
  constructor
  · intro z
    rw [if_pos (e.mp z)] at hq
    exact hq
  · intro z
    rw [if_neg (fun w => z (e.mpr w))] at hq
    exact hq
theorem p_numberW {d n : Nat} {t : Nat → UInt8} : ∀ (i v : Nat) (σ : fkS), PTx t n σ → σ.1 88 3 = nI i → i ≤ n → σ.2.1 88 11 = lN v → v ≤ 2147483648 → Wq 164 (d + 1) 5 [some (.ref 88)] [] σ (Qv (fun s => s.2.2 = σ.2.2 ∧ Fr fkPV σ s ∧ s.1 88 3 = nI (runP cD t n i) ∧ s.2.1 88 11 = lN (nvG t (runP cD t n i - i) i v) ∧ s.1 88 9 = if nvG t (runP cD t n i - i) i v < 2147483648 then σ.1 88 9 else 3)) := by
  refine runP_ind (f := cD) (t := t) (n := n) _ (fun i hi hf ih v σ h h3 hn h4 hv => ?_) (fun i hi v σ h h3 hn h4 hv => ?_)
  · obtain ⟨a1, a2, a3, a4⟩ := id h
    have hbx : bX t n i = nI (t i).toNat := by unfold bX; rw [if_pos hi]; rfl
    have hb := (t i).toNat_lt
    refine S_Parser_number_5 ⟨fun z => ?_, fun _ => ?_⟩
    · rw [a2, h3] at z
      exact absurd z (nI_ge hi (by omega))
    · rw [h3]
      refine (p_byte h (by omega)).mono fun x s hx => ?_
      obtain ⟨v1, rfl, e1, rfl, rfl⟩ := Qi_s hx
      refine ⟨e1, ?_⟩
      simp only [sW_eq e1]
      rw [hbx]
      refine (p_digit (c := (t i).toNat) (by omega)).mono fun x s hx => ?_
      obtain ⟨v1, rfl, e1, rfl, rfl⟩ := Qi_s hx
      refine ⟨e1, ?_⟩
      simp only [sW_eq e1]
      rw [hf]
      refine ⟨fun z => absurd z (by decide), fun _ => ?_⟩
      rw [h3]
      refine (p_byte h (by omega)).mono fun x s hx => ?_
      obtain ⟨v1, rfl, e1, rfl, rfl⟩ := Qi_s hx
      refine ⟨e1, ?_⟩
      simp only [sW_eq e1]
      rw [hbx, nI_l (by omega), h4, h3]
      have q : 48 ≤ (t i).toNat := by
        unfold cD at hf
        simp at hf
        omega
      have e2 : lN v * 10 + lN (t i).toNat - 48 = lN (10 * v + ((t i).toNat - 48)) := by
        rw [show (10 : Int64) = lN 10 from rfl, lN_mul, lN_add, show (48 : Int64) = lN 48 from rfl, lN_sub (by omega)]
        congr 1
        omega
      have e3 : (if (Int64.ofNat 2147483648) < lN (10 * v + ((t i).toNat - 48)) then (Int64.ofNat 2147483648) else lN (10 * v + ((t i).toNat - 48))) = lN (nvS v ((t i).toNat - 48)) := by
        have z : lN (10 * v + ((t i).toNat - 48)) ≤ lN 2147483648 ↔ 10 * v + ((t i).toNat - 48) ≤ 2147483648 := pk_lLE (by omega) (by omega)
        unfold nvS
        rw [show Int64.ofNat 2147483648 = lN 2147483648 from rfl]
        by_cases c : 10 * v + ((t i).toNat - 48) ≤ 2147483648
        · rw [if_neg (Int64.not_lt.mpr (z.mpr c)), Nat.min_eq_left c]
        · rw [if_pos (Int64.not_le.mp (fun w => c (z.mp w))), Nat.min_eq_right (by omega)]
      have e4 : nI i + 1 = nI (i + 1) := (nI_succ i).symm
      rw [e2, e3, e4]
      have f0 : Fr fkPV s (sI (sL s 88 11 (lN (nvS v ((t i).toNat - 48)))) 88 3 (nI (i + 1))) := (Fr.rf.sL rfl).sI rfl
      refine (ih _ _ (h.fr f0 (fun _ => rfl) rfl rfl) sI_ss hi sL_ss (Nat.min_le_right _ _)).mono fun x s2 hx => ?_
      obtain ⟨rfl, g1, g2, g3, g4, g5⟩ := Qv_s hx
      have e5 : runP cD t n i - i = (runP cD t n (i + 1) - (i + 1)) + 1 := by
        rw [runP_on hi hf]
        have := (runP_le (f := cD) (t := t) (n := n) (i + 1)).1
        omega
      rw [e5, nvG, runP_on hi hf]
      refine ⟨g1, f0.tr g2, g3, g4, g5.trans ?_⟩
      rfl
  · obtain ⟨a1, a2, a3, a4⟩ := id h
    rw [runP_off hi, Nat.sub_self]
    have fin : Qv (fun s => s.2.2 = σ.2.2 ∧ Fr fkPV σ s ∧ s.1 88 3 = nI i ∧ s.2.1 88 11 = lN (nvG t 0 i v) ∧ s.1 88 9 = if nvG t 0 i v < 2147483648 then σ.1 88 9 else 3) none (if v < 2147483648 then σ else sI σ 88 9 3) := by
      show _ ∧ _ ∧ _ ∧ _ ∧ _
      rw [nvG]
      by_cases c : v < 2147483648
      · rw [if_pos c, if_pos c]
        exact ⟨rfl, Fr.rf, h3, h4, rfl⟩
      · rw [if_neg c, if_neg c]
        exact ⟨rfl, Fr.rf.sI rfl, h3, h4, sI_ss⟩
    refine S_Parser_number_5 ⟨fun _ => p_end (d := d) (n := n) (i := i) (t := t) (σ := σ) hv h4 fin, fun z => ?_⟩
    have c : i < n := by
      rcases Nat.lt_or_ge i n with q | q
      · exact q
      · rw [a2, h3] at z
        exact absurd (nI_le q (by omega)) z
    have hbx : bX t n i = nI (t i).toNat := by unfold bX; rw [if_pos c]; rfl
    have hb := (t i).toNat_lt
    have hf : cD (t i).toNat = false := by
      cases q : cD (t i).toNat
      · rfl
      · exact absurd ⟨c, q⟩ hi
    rw [h3]
    refine (p_byte h (by omega)).mono fun x s hx => ?_
    obtain ⟨v1, rfl, e1, rfl, rfl⟩ := Qi_s hx
    refine ⟨e1, ?_⟩
    simp only [sW_eq e1]
    rw [hbx]
    refine (p_digit (c := (t i).toNat) (by omega)).mono fun x s hx => ?_
    obtain ⟨v1, rfl, e1, rfl, rfl⟩ := Qi_s hx
    refine ⟨e1, ?_⟩
    simp only [sW_eq e1]
    rw [hf]
    exact ⟨fun _ => p_end (d := d) (n := n) (i := i) (t := t) (σ := s) hv h4 fin, fun z => absurd rfl z⟩
/-- a number: its kind is 2, or 3 if it is too great -/
theorem p_number {d n i : Nat} {t : Nat → UInt8} {σ : fkS} (h : PTx t n σ) (h3 : σ.1 88 3 = nI i) (hn : i ≤ n) (h4 : σ.2.1 88 11 = 0) : Dv (d + 1) 164 [.ref 88] σ (fun s => Fr fkPV σ s ∧ s.1 88 3 = nI (runP cD t n i) ∧ s.2.1 88 11 = lN (nvT t i (runP cD t n i)) ∧ s.1 88 9 = if nvT t i (runP cD t n i) < 2147483648 then 2 else 3) := by
  refine S_Parser_number ?_
  have f0 : Fr fkPV σ (sI σ 88 9 (2 : Int32)) := Fr.rf.sI rfl
  refine (p_numberW i 0 _ (h.fr f0 (fun _ => rfl) rfl rfl) ((sI_so (by decide)).trans h3) hn h4 (by omega)).mono fun x s hx => ?_
  obtain ⟨rfl, g1, g2, g3, g4, g5⟩ := Qv_s hx
  refine ⟨g1, f0.tr g2, g3, g4, g5.trans ?_⟩
  rw [sI_ss]
  rfl
