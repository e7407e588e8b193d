/-! THE REFERENCE reads a TOKEN: words, numbers -/
theorem PTm.fs {t : Nat → UInt8} {n : Nat} {σ σ' : fkS} (h : PTm t n σ) (hf : Fr fkMS σ σ') : PTm t n σ' := h.fr hf (fun _ => rfl) rfl
section MX
variable {d n : Nat} {t : Nat → UInt8}
theorem m_wordW {a : Nat} : ∀ (i : Nat) (σ : fkS), PTm t n σ → σ.1 103 80 = nI i → σ.1 103 83 = nI a → i ≤ n → a ≤ i → Wq 325 (d + 4) 78 [some (.ref 103), none, none] [] σ (Qv (fun s => Fr fkMS σ s ∧ s.1 103 80 = nI (runP cW t n i) ∧ s.1 103 83 = nI a ∧ s.1 103 84 = nI (runP cW t n i - a) ∧ s.1 103 82 = if runP cW t n i - a ≤ 10 then 1 else -1)) := by
  refine runP_ind (f := cW) (t := t) (n := n) _ (fun i hi hf ih σ h h3 ha hn hai => ?_) (fun i hi σ h h3 ha hn hai => ?_)
  · have hn4 := h.2.2
    have e1 : nI i + 1 = nI (i + 1) := (nI_succ i).symm
    have on : Wq 325 (d + 4) 78 [some (.ref 103), none, none] [] (sI σ 103 80 (nI (i + 1))) (Qv (fun s => Fr fkMS σ s ∧ s.1 103 80 = nI (runP cW t n i) ∧ s.1 103 83 = nI a ∧ s.1 103 84 = nI (runP cW t n i - a) ∧ s.1 103 82 = if runP cW t n i - a ≤ 10 then 1 else -1)) := by
      have f0 : Fr fkMS σ (sI σ 103 80 (nI (i + 1))) := Fr.rf.sI rfl
      refine (ih _ (h.fs f0) sI_ss ((sI_so (by decide)).trans ha) hi (by omega)).mono fun x s hx => ?_
      obtain ⟨rfl, g1, g2, g3, g4, g5⟩ := Qv_s hx
      rw [runP_on hi hf]
      exact ⟨f0.tr g1, g2, g3, g4, g5⟩
    refine S_M_scan_78 ?_
    rw [h3]
    refine (m_byte (i := i) h (by omega)).mono fun x s hx => ?_
    obtain ⟨v, rfl, rfl, rfl⟩ := Qi_s hx
    refine (m_letter (tbt_le t n i)).mono fun x s hx => ?_
    obtain ⟨v, rfl, rfl, rfl⟩ := Qi_s hx
    show _ ∧ _
    rw [h3, e1]
    refine ⟨fun _ => on, fun z => ?_⟩
    refine (m_byte (i := i) h (by omega)).mono fun x s hx => ?_
    obtain ⟨v, rfl, rfl, rfl⟩ := Qi_s hx
    refine (m_digit (tbt_le t n i)).mono fun x s hx => ?_
    obtain ⟨v, rfl, rfl, rfl⟩ := Qi_s hx
    show _ ∧ _
    rw [h3, e1]
    refine ⟨fun z2 => ?_, fun _ => on⟩
    exfalso
    rw [tbt_in hi] at z z2
    unfold cW at hf
    cases q : cL (t i).toNat
    · cases q2 : cD (t i).toNat
      · rw [q, q2] at hf; cases hf
      · rw [q2] at z2; exact absurd z2 (by decide)
    · rw [q] at z; exact absurd z (by decide)
  · have hn4 := h.2.2
    rw [runP_off hi]
    have hc : cL (tbt t n i) = false ∧ cD (tbt t n i) = false := by
      by_cases c : i < n
      · rw [tbt_in c]
        have q : ¬ cW (t i).toNat = true := fun q => hi ⟨c, q⟩
        unfold cW at q
        simpa using q
      · have e : tbt t n i = 256 := if_neg c
        rw [e]
        exact ⟨by decide, by decide⟩
    refine S_M_scan_78 ?_
    rw [h3]
    refine (m_byte (i := i) h (by omega)).mono fun x s hx => ?_
    obtain ⟨v, rfl, rfl, rfl⟩ := Qi_s hx
    refine (m_letter (tbt_le t n i)).mono fun x s hx => ?_
    obtain ⟨v, rfl, rfl, rfl⟩ := Qi_s hx
    rw [hc.1]
    refine ⟨fun z => absurd rfl z, fun _ => ?_⟩
    rw [h3]
    refine (m_byte (i := i) h (by omega)).mono fun x s hx => ?_
    obtain ⟨v, rfl, rfl, rfl⟩ := Qi_s hx
    refine (m_digit (tbt_le t n i)).mono fun x s hx => ?_
    obtain ⟨v, rfl, rfl, rfl⟩ := Qi_s hx
    rw [hc.2]
    refine ⟨fun _ => ?_, fun z => absurd rfl z⟩
    rw [h3, ha, nI_sub hai]
    refine ⟨fun z => ⟨(Fr.rf.sI rfl).sI rfl, h3, ha, ?_, ?_⟩, fun z => ⟨(Fr.rf.sI rfl).sI rfl, h3, ha, ?_, ?_⟩⟩
    · exact (sI_so (by decide)).trans sI_ss
    · rw [if_pos]
      · exact sI_ss
      · rcases Nat.lt_or_ge 10 (i - a) with q | q
        · exact absurd z (nI_ge (a := 10) q (by omega))
        · exact q
    · exact (sI_so (by decide)).trans sI_ss
    · rw [if_neg]
      · exact sI_ss
      · exact fun q => z (nI_le (b := 10) q (by decide))
theorem m_numW {a : Nat} : ∀ (i v w : Nat) (σ : fkS), PTm t n σ → σ.1 103 80 = nI i → σ.1 103 83 = nI a → i ≤ n → σ.2.1 103 85 = lN w → v = min w 2147483648 → w < 2 ^ 36 → Wq 325 (d + 4) 163 [some (.ref 103), none, none] [] σ (Qv (fun s => Fr fkMS σ s ∧ s.1 103 80 = nI (runP cD t n i) ∧ s.1 103 83 = nI a ∧ (nvG t (runP cD t n i - i) i v < 2147483648 → s.1 103 82 = σ.1 103 82 ∧ s.2.1 103 85 = lN (nvG t (runP cD t n i - i) i v)) ∧ (¬ nvG t (runP cD t n i - i) i v < 2147483648 → s.1 103 82 = -1))) := by
  have cmp : ∀ w : Nat, w < 2 ^ 36 → (lg_cmp (lN w) (2147483647 : Int64) ≤ 0 ↔ w ≤ 2147483647) := by
    intro w hw
    rw [lg_le, show (2147483647 : Int64) = lN 2147483647 from rfl]
    exact pk_lLE (by omega) (by omega)
  refine runP_ind (f := cD) (t := t) (n := n) _ (fun i hi hf ih v w σ h h3 ha hn h4 hv hw => ?_) (fun i hi v w σ h h3 ha hn h4 hv hw => ?_)
  · have hn4 := h.2.2
    have hb := (t i).toNat_lt
    have e1 : nI i + 1 = nI (i + 1) := (nI_succ i).symm
    have q : 48 ≤ (t i).toNat ∧ (t i).toNat ≤ 57 := by
      unfold cD at hf
      simpa using hf
    have e5 : runP cD t n i - i = (runP cD t n (i + 1) - (i + 1)) + 1 := by
      rw [runP_on hi hf]
      have := (runP_le (f := cD) (t := t) (n := n) (i + 1)).1
      omega
    have on : ∀ w2 : Nat, w2 < 2 ^ 36 → nvS v ((t i).toNat - 48) = min w2 2147483648 → Wq 325 (d + 4) 163 [some (.ref 103), none, none] [] (sI (sL σ 103 85 (lN w2)) 103 80 (nI (i + 1))) (Qv (fun s => Fr fkMS σ s ∧ s.1 103 80 = nI (runP cD t n i) ∧ s.1 103 83 = nI a ∧ (nvG t (runP cD t n i - i) i v < 2147483648 → s.1 103 82 = σ.1 103 82 ∧ s.2.1 103 85 = lN (nvG t (runP cD t n i - i) i v)) ∧ (¬ nvG t (runP cD t n i - i) i v < 2147483648 → s.1 103 82 = -1))) := by
      intro w2 hw2 hv2
      have f0 : Fr fkMS σ (sI (sL σ 103 85 (lN w2)) 103 80 (nI (i + 1))) := (Fr.rf.sL rfl).sI rfl
      refine (ih (nvS v ((t i).toNat - 48)) w2 _ (h.fs f0) sI_ss ((show (sI (sL σ 103 85 (lN w2)) 103 80 (nI (i + 1))).1 103 83 = σ.1 103 83 from (sI_so (by decide)).trans rfl).trans ha) hi sL_ss hv2 hw2).mono fun x s hx => ?_
      obtain ⟨rfl, g1, g2, g3, g4, g5⟩ := Qv_s hx
      rw [e5, nvG, runP_on hi hf]
      refine ⟨f0.tr g1, g2, g3, fun z => ?_, g5⟩
      obtain ⟨z1, z2⟩ := g4 z
      exact ⟨z1.trans ((sI_so (by decide)).trans rfl), z2⟩
    refine S_M_scan_163 ?_
    rw [h3]
    refine (m_byte (i := i) h (by omega)).mono fun x s hx => ?_
    obtain ⟨v1, rfl, rfl, rfl⟩ := Qi_s hx
    refine (m_digit (tbt_le t n i)).mono fun x s hx => ?_
    obtain ⟨v1, rfl, rfl, rfl⟩ := Qi_s hx
    rw [tbt_in hi, hf]
    refine ⟨fun z => absurd z (by decide), fun _ => ?_⟩
    rw [h4, h3]
    refine ⟨fun z => ?_, fun z => ?_⟩
    · have hw2 := (cmp w hw).mp z
      refine (m_byte (i := i) h (by omega)).mono fun x s hx => ?_
      obtain ⟨v1, rfl, rfl, rfl⟩ := Qi_s hx
      show Wq _ _ _ _ _ _ _
      rw [h3, e1, tbt_in hi]
      have e6 : mI (t i).toNat = nI (t i).toNat := if_neg (by omega)
      have e7 : 10 * lN w + (nI (t i).toNat).toInt64 - 48 = lN (10 * w + ((t i).toNat - 48)) := by
        rw [show (10 : Int64) = lN 10 from rfl, lN_mul, nI_l (by omega), lN_add, show (48 : Int64) = lN 48 from rfl, lN_sub (by omega)]
        congr 1
        omega
      rw [e6, e7]
      exact on _ (by omega) (by unfold nvS; omega)
    · have hw2 : ¬ w ≤ 2147483647 := fun c => z ((cmp w hw).mpr c)
      rw [e1]
      exact on w hw (by unfold nvS; omega)
  · have hn4 := h.2.2
    rw [runP_off hi, Nat.sub_self]
    have hc : cD (tbt t n i) = false := by
      by_cases c : i < n
      · rw [tbt_in c]
        cases q : cD (t i).toNat
        · rfl
        · exact absurd ⟨c, q⟩ hi
      · have e : tbt t n i = 256 := if_neg c
        rw [e]
        decide
    refine S_M_scan_163 ?_
    rw [h3]
    refine (m_byte (i := i) h (by omega)).mono fun x s hx => ?_
    obtain ⟨v1, rfl, rfl, rfl⟩ := Qi_s hx
    refine (m_digit (tbt_le t n i)).mono fun x s hx => ?_
    obtain ⟨v1, rfl, rfl, rfl⟩ := Qi_s hx
    rw [hc]
    refine ⟨fun _ => ?_, fun z => absurd rfl z⟩
    rw [h4]
    refine ⟨fun z => ⟨Fr.rf, h3, ha, fun _ => ⟨rfl, ?_⟩, fun q => ?_⟩, fun z => ⟨Fr.rf.sI rfl, h3, ha, fun q => ?_, fun _ => sI_ss⟩⟩
    · have := (cmp w hw).mp z
      rw [h4, nvG, hv]
      congr 1
      omega
    · exfalso
      rw [nvG] at q
      have := (cmp w hw).mp z
      omega
    · exfalso
      rw [nvG] at q
      exact z ((cmp w hw).mpr (by omega))
end MX
