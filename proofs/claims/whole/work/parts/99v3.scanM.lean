/-! THE REFERENCE reads a TOKEN -/
def mK (q : Nat × Nat × Nat × Nat) : Int32 := if q.1 = 4 then -1 else nI q.1
def sM (s : Nat) : Nat := if s = 128 then 69 else if s = 129 then 65 else s
/-- the reference stands behind this TOKEN -/
def TkM (t : Nat → UInt8) (q : Nat × Nat × Nat × Nat) (s : fkS) : Prop := s.1 103 82 = mK q ∧ s.1 103 83 = nI q.2.1 ∧ s.1 103 80 = nI q.2.2.1 ∧ (q.1 = 1 → s.1 103 84 = nI (q.2.2.1 - q.2.1)) ∧ (q.1 = 2 → s.2.1 103 85 = lN (nvT t q.2.1 q.2.2.1)) ∧ (q.1 = 3 → s.2.1 103 85 = lN (sM q.2.2.2))
section MX
variable {d n a : Nat} {t : Nat → UInt8} {σ : fkS}
theorem n12 : ¬ (3 : Nat) = 1 ∧ ¬ (3 : Nat) = 2 ∧ ¬ (4 : Nat) = 1 ∧ ¬ (4 : Nat) = 2 ∧ ¬ (4 : Nat) = 3 := by decide
theorem m_two {c : Nat} (h3 : σ.1 103 80 = nI a) (ha : σ.1 103 83 = nI a) (hc : c = 61 ∨ c = 45) : Wq 325 (d + 4) 298 [some (.ref 103), some (.int (nI c)), none] [.int (1 : Int32)] σ (Qv (fun s => Fr fkMS σ s ∧ TkM t (3, a, a + 2, if c = 61 then 128 else 129) s)) := by
  have e2 : nI a + 2 = nI (a + 2) := nI_add a 2
  have fin : ∀ v : Int64, v = lN (sM (if c = 61 then 128 else 129)) → Wq 325 (d + 4) 323 [some (.ref 103), some (.int (nI c)), some (.int (1 : Int32))] [.long v, .ref 103] σ (Qv (fun s => Fr fkMS σ s ∧ TkM t (3, a, a + 2, if c = 61 then 128 else 129) s)) := by
    intro v hv
    refine S_M_scan_323 ⟨fun _ => S_M_scan_341 ⟨fun z => absurd z (by decide), fun _ => ?_⟩, fun z => absurd z (by decide)⟩
    have e3 : (sL σ 103 85 v).1 103 80 = nI a := h3
    rw [e3, e2]
    exact ⟨((Fr.rf.sL rfl).sI rfl).sI rfl, (sI_so (by decide)).trans sI_ss, (show (sI (sI (sL σ 103 85 v) 103 82 3) 103 80 (nI (a + 2))).1 103 83 = σ.1 103 83 from (sI_so (by decide)).trans ((sI_so (by decide)).trans rfl)).trans ha, sI_ss, fun z => absurd z n12.1, fun z => absurd z n12.2.1, fun _ => (show (sL σ 103 85 v).2.1 103 85 = v from sL_ss).trans hv⟩
  refine S_M_scan_298 ⟨fun z => absurd z (by decide), fun _ => ⟨fun z => fin _ ?_, fun z => fin _ ?_⟩⟩
  · rcases hc with rfl | rfl
    · exact absurd rfl z
    · decide
  · rcases hc with rfl | rfl
    · decide
    · exact absurd z (by decide)
theorem m_one {c : Nat} (h3 : σ.1 103 80 = nI a) (ha : σ.1 103 83 = nI a) (hc : c < 256) : Wq 325 (d + 4) 298 [some (.ref 103), some (.int (nI c)), none] [.int (0 : Int32)] σ (Qv (fun s => Fr fkMS σ s ∧ TkM t (if c ∈ sgs then (3, a, a + 1, c) else (4, a, a + 1, 0)) s)) := by
  have e1 : nI a + 1 = nI (a + 1) := (nI_succ a).symm
  refine S_M_scan_298 ⟨fun _ => ?_, fun z => absurd rfl z⟩
  rw [nI_l (by omega)]
  refine S_M_scan_323 ⟨fun z => absurd rfl z, fun _ => rg_S (i := 2) (by decide) ((s_indexOf (d := d) (i := 2) (by decide) hc).mono fun x s hx => ?_)⟩
  obtain ⟨v, rfl, rfl, hv⟩ := Qi_s hx
  have hm := sgs_mem hc sgs_bt.2.1
  have e3 : (sL σ 103 85 (lN c)).1 103 80 = nI a := h3
  show _ ∧ _
  rw [e3, e1]
  refine ⟨fun z => ⟨fun _ => ?_, fun q => absurd rfl q⟩, fun z => S_M_scan_341 ⟨fun _ => ?_, fun q => absurd rfl q⟩⟩
  · have c3 : ¬ c ∈ sgs := fun q => absurd z (Int32.not_lt.mpr (hv.mpr (hm.mpr q)))
    rw [if_neg c3]
    exact ⟨((Fr.rf.sL rfl).sI rfl).sI rfl, (sI_so (by decide)).trans sI_ss, (show (sI (sI (sL σ 103 85 (lN c)) 103 82 (-1)) 103 80 (nI (a + 1))).1 103 83 = σ.1 103 83 from (sI_so (by decide)).trans ((sI_so (by decide)).trans rfl)).trans ha, sI_ss, fun z => absurd z n12.2.2.1, fun z => absurd z n12.2.2.2.1, fun z => absurd z n12.2.2.2.2⟩
  · have c3 : c ∈ sgs := hm.mp (hv.mp (Int32.not_lt.mp z))
    have hlt := sgs_bt.2.2 c c3
    rw [if_pos c3, e3, e1]
    refine ⟨((Fr.rf.sL rfl).sI rfl).sI rfl, (sI_so (by decide)).trans sI_ss, (show (sI (sI (sL σ 103 85 (lN c)) 103 82 3) 103 80 (nI (a + 1))).1 103 83 = σ.1 103 83 from (sI_so (by decide)).trans ((sI_so (by decide)).trans rfl)).trans ha, sI_ss, fun z => absurd z n12.1, fun z => absurd z n12.2.1, fun _ => (show (sL σ 103 85 (lN c)).2.1 103 85 = lN c from sL_ss).trans ?_⟩
    have e5 : sM c = c := by
      unfold sM
      rw [if_neg (by omega), if_neg (by omega)]
    show lN c = lN (sM c)
    rw [e5]
/-- signs from 272 on -/
theorem m_sgn {c : Nat} (h : PTm t n σ) (h3 : σ.1 103 80 = nI a) (ha : σ.1 103 83 = nI a) (hc : c < 256) (han : a < n) (hno : ¬ (c = 61 ∧ tbt t n (a + 1) = 61)) : Wq 325 (d + 4) 272 [some (.ref 103), some (.int (nI c)), none] [] σ (Qv (fun s => Fr fkMS σ s ∧ TkM t (if c = 45 ∧ tbt t n (a + 1) = 62 then (3, a, a + 2, 129) else if c ∈ sgs then (3, a, a + 1, c) else (4, a, a + 1, 0)) s)) := by
  have hn := h.2.2
  have e1 : nI a + 1 = nI (a + 1) := (nI_succ a).symm
  refine S_M_scan_272 ⟨fun z => ?_, fun z => ?_⟩
  · rw [if_neg (fun q => z (by rw [q.1]; rfl))]
    exact m_one h3 ha hc
  · have c1 : c = 45 := (nI_eq (b := 45) (by omega) (by decide)).mp z
    rw [h3, e1]
    refine (m_byte (i := a + 1) h (by omega)).mono fun x s hx => ?_
    obtain ⟨v, rfl, rfl, rfl⟩ := Qi_s hx
    refine ⟨fun z2 => ?_, fun z2 => ?_⟩
    · rw [if_neg (fun q => z2 ((mI_eq (e := 62) (tbt_le t n (a + 1)) (by decide)).mpr q.2))]
      exact m_one h3 ha hc
    · rw [if_pos ⟨c1, (mI_eq (e := 62) (tbt_le t n (a + 1)) (by decide)).mp z2⟩]
      have z3 := m_two (d := d) (t := t) (c := c) h3 ha (Or.inr c1)
      rw [if_neg (by omega)] at z3
      exact z3
theorem m_scanW : ∀ (p : Nat) (σ : fkS), PTm t n σ → σ.1 103 80 = nI p → p ≤ n → Wq 325 (d + 4) 0 [some (.ref 103), none, none] [] σ (Qv (fun s => Fr fkMS σ s ∧ TkM t (tok t n p) s)) := by
  refine runP_ind (f := cB) (t := t) (n := n) _ (fun p hp hf ih σ h h3 hn => ?_) (fun p hp σ h h3 hn => ?_)
  · have hn4 := h.2.2
    have e1 : nI p + 1 = nI (p + 1) := (nI_succ p).symm
    have on : Wq 325 (d + 4) 0 [some (.ref 103), none, none] [] (sI σ 103 80 (nI (p + 1))) (Qv (fun s => Fr fkMS σ s ∧ TkM t (tok t n p) s)) := by
      have f0 : Fr fkMS σ (sI σ 103 80 (nI (p + 1))) := Fr.rf.sI rfl
      refine (ih _ (h.fs f0) sI_ss hp).mono fun x s hx => ?_
      obtain ⟨rfl, g1, g2⟩ := Qv_s hx
      have e : tok t n p = tok t n (p + 1) := by unfold tok; rw [runP_on hp hf]
      rw [e]
      exact ⟨f0.tr g1, g2⟩
    refine S_M_scan_0 ?_
    rw [h3]
    refine (m_byte (i := p) h (by omega)).mono fun x s hx => ?_
    obtain ⟨v, rfl, rfl, rfl⟩ := Qi_s hx
    show _ ∧ _
    rw [h3, e1]
    refine ⟨fun _ => on, fun z => ?_⟩
    refine (m_byte (i := p) h (by omega)).mono fun x s hx => ?_
    obtain ⟨v, rfl, rfl, rfl⟩ := Qi_s hx
    show _ ∧ _
    refine ⟨fun z2 => ?_, fun _ => by rw [h3, e1]; exact on⟩
    exfalso
    rw [tbt_in hp] at z z2
    unfold cB at hf
    simp only [Bool.or_eq_true, beq_iff_eq] at hf
    rcases hf with q | q
    · exact z (by rw [q]; rfl)
    · exact z2 (by rw [q]; rfl)
  · have hn4 := h.2.2
    have e0 : tok t n p = tokA t n p := by unfold tok; rw [runP_off hp]
    rw [e0]
    have nb : ¬ mI (tbt t n p) = 32 ∧ ¬ mI (tbt t n p) = 10 := by
      have q : ∀ c : Nat, c < 256 → cB c = true → ¬ mI (tbt t n p) = nI c := by
        intro c hc hb z
        have z2 := (mI_eq (tbt_le t n p) hc).mp z
        by_cases c2 : p < n
        · rw [tbt_in c2] at z2
          exact hp ⟨c2, by rw [z2]; exact hb⟩
        · unfold tbt at z2
          rw [if_neg c2] at z2
          omega
      exact ⟨q 32 (by decide) (by decide), q 10 (by decide) (by decide)⟩
    refine S_M_scan_0 ?_
    rw [h3]
    refine (m_byte (i := p) h (by omega)).mono fun x s hx => ?_
    obtain ⟨v, rfl, rfl, rfl⟩ := Qi_s hx
    refine ⟨fun z => absurd z nb.1, fun _ => ?_⟩
    rw [h3]
    refine (m_byte (i := p) h (by omega)).mono fun x s hx => ?_
    obtain ⟨v, rfl, rfl, rfl⟩ := Qi_s hx
    refine ⟨fun _ => ?_, fun z => absurd z nb.2⟩
    rw [h3]
    have f0 : Fr fkMS s (sL (sI s 103 83 (nI p)) 103 85 0) := (Fr.rf.sI rfl).sL rfl
    have h' := h.fs f0
    have h3' : (sL (sI s 103 83 (nI p)) 103 85 0).1 103 80 = nI p := (show (sI s 103 83 (nI p)).1 103 80 = s.1 103 80 from sI_so (by decide)).trans h3
    have ha' : (sL (sI s 103 83 (nI p)) 103 85 0).1 103 83 = nI p := show (sI s 103 83 (nI p)).1 103 83 = nI p from sI_ss
    have h5' : (sL (sI s 103 83 (nI p)) 103 85 0).2.1 103 85 = lN 0 := sL_ss
    generalize sL (sI s 103 83 (nI p)) 103 85 0 = s0 at f0 h' h3' ha' h5' ⊢
    refine (m_byte (i := p) h' (by omega)).mono fun x s1 hx => ?_
    obtain ⟨v, rfl, rfl, rfl⟩ := Qi_s hx
    refine ⟨fun z => ?_, fun z => ?_⟩
    · have han : p < n := by
        rcases Nat.lt_or_ge p n with q | q
        · exact q
        · exfalso
          refine (mI_pos (tbt_le t n p)).mp z ?_
          exact if_neg (by omega)
      have hb := (t p).toNat_lt
      rw [tbt_in han]
      have em : mI (t p).toNat = nI (t p).toNat := if_neg (by omega)
      refine (m_letter (c := (t p).toNat) (by omega)).mono fun x s2 hx => ?_
      obtain ⟨v, rfl, rfl, rfl⟩ := Qi_s hx
      refine ⟨fun z1 => ?_, fun z1 => ?_⟩
      · have h1 : cL (t p).toNat = false := by
          cases q : cL (t p).toNat
          · rfl
          · rw [q] at z1; exact absurd z1 (by decide)
        refine (m_digit (c := (t p).toNat) (by omega)).mono fun x s3 hx => ?_
        obtain ⟨v, rfl, rfl, rfl⟩ := Qi_s hx
        refine ⟨fun z2 => ?_, fun z2 => ?_⟩
        · have h2 : cD (t p).toNat = false := by
            cases q : cD (t p).toNat
            · rfl
            · rw [q] at z2; exact absurd z2 (by decide)
          rw [tokA_S han h1 h2, em]
          have sg : ¬ ((t p).toNat = 61 ∧ tbt t n (p + 1) = 61) → Wq 325 (d + 4) 272 [some (.ref 103), some (.int (nI (t p).toNat)), none] [] s3 (Qv (fun s4 => Fr fkMS s s4 ∧ TkM t (if (t p).toNat = 61 ∧ tbt t n (p + 1) = 61 then (3, p, p + 2, 128) else if (t p).toNat = 45 ∧ tbt t n (p + 1) = 62 then (3, p, p + 2, 129) else if (t p).toNat ∈ sgs then (3, p, p + 1, (t p).toNat) else (4, p, p + 1, 0)) s4)) := by
            intro c1
            rw [if_neg c1]
            refine (m_sgn h' h3' ha' hb han c1).mono fun x s4 hx => ?_
            obtain ⟨rfl, g1, g2⟩ := Qv_s hx
            exact ⟨f0.tr g1, g2⟩
          refine ⟨fun z3 => sg (fun q => z3 (by rw [q.1]; rfl)), fun z3 => ?_⟩
          have c1 : (t p).toNat = 61 := (nI_eq (b := 61) (by omega) (by decide)).mp z3
          rw [h3', show nI p + 1 = nI (p + 1) from (nI_succ p).symm]
          refine (m_byte (i := p + 1) h' (by omega)).mono fun x s4 hx => ?_
          obtain ⟨v, rfl, rfl, rfl⟩ := Qi_s hx
          refine ⟨fun z4 => ?_, fun z4 => sg (fun q => z4 ((mI_eq (e := 61) (tbt_le t n (p + 1)) (by decide)).mpr q.2))⟩
          have c2 := (mI_eq (e := 61) (tbt_le t n (p + 1)) (by decide)).mp z4
          rw [if_pos ⟨c1, c2⟩]
          have z5 := m_two (d := d) (t := t) (c := (t p).toNat) h3' ha' (Or.inl c1)
          rw [if_pos c1] at z5
          refine z5.mono fun x s5 hx => ?_
          obtain ⟨rfl, g1, g2⟩ := Qv_s hx
          exact ⟨f0.tr g1, g2⟩
        · have h2 : cD (t p).toNat = true := by
            cases q : cD (t p).toNat
            · rw [q] at z2; exact absurd rfl z2
            · rfl
          rw [tokA_D han h1 h2]
          have f1 : Fr fkMS s3 (sI s3 103 82 2) := Fr.rf.sI rfl
          refine (m_numW (a := p) p 0 0 _ (h'.fs f1) ((sI_so (by decide)).trans h3') ((sI_so (by decide)).trans ha') (by omega) h5' rfl (by decide)).mono fun x s4 hx => ?_
          obtain ⟨rfl, g1, g2, g3, g4, g5⟩ := Qv_s hx
          refine ⟨(f0.tr f1).tr g1, ?_⟩
          by_cases c : nvT t p (runP cD t n p) < 2147483648
          · rw [if_pos c]
            obtain ⟨k1, k2⟩ := g4 c
            exact ⟨k1.trans sI_ss, g3, g2, fun q => absurd (show (2 : Nat) = 1 from q) (by decide), fun _ => k2, fun q => absurd (show (2 : Nat) = 3 from q) (by decide)⟩
          · rw [if_neg c]
            exact ⟨g5 c, g3, g2, fun z => absurd z n12.2.2.1, fun z => absurd z n12.2.2.2.1, fun z => absurd z n12.2.2.2.2⟩
      · have h1 : cL (t p).toNat = true := by
          cases q : cL (t p).toNat
          · rw [q] at z1; exact absurd rfl z1
          · rfl
        rw [tokA_L han h1]
        refine (m_wordW (a := p) p s2 h' h3' ha' (by omega) (Nat.le_refl p)).mono fun x s4 hx => ?_
        obtain ⟨rfl, g1, g2, g3, g4, g5⟩ := Qv_s hx
        refine ⟨f0.tr g1, ?_⟩
        by_cases c : runP cW t n p - p ≤ 10
        · rw [if_pos c] at g5 ⊢
          exact ⟨g5, g3, g2, fun _ => g4, fun q => absurd (show (1 : Nat) = 2 from q) (by decide), fun q => absurd (show (1 : Nat) = 3 from q) (by decide)⟩
        · rw [if_neg c] at g5 ⊢
          exact ⟨g5, g3, g2, fun z => absurd z n12.2.2.1, fun z => absurd z n12.2.2.2.1, fun z => absurd z n12.2.2.2.2⟩
    · have han : ¬ p < n := by
        intro q
        have hb := (t p).toNat_lt
        exact z ((mI_pos (tbt_le t n p)).mpr (by rw [tbt_in q]; omega))
      rw [tokA_E han]
      exact ⟨f0.tr (Fr.rf.sI rfl), sI_ss, (sI_so (by decide)).trans ha', (sI_so (by decide)).trans h3', fun q => absurd (show (0 : Nat) = 1 from q) (by decide), fun q => absurd (show (0 : Nat) = 2 from q) (by decide), fun q => absurd (show (0 : Nat) = 3 from q) (by decide)⟩
/-- the reference reads one TOKEN -/
theorem m_scan {p : Nat} (h : PTm t n σ) (h3 : σ.1 103 80 = nI p) (hp : p ≤ n) : Cv (d + 4) 325 [.ref 103] σ (fun s => Fr fkMS σ s ∧ TkM t (tok t n p) s) :=
  Cl.of fk_q325 (by decide) (m_scanW p σ h h3 hp)
end MX
