/-! the class's row of TOKENS -/
def fkPW (c j : Nat) : Bool := Nat.beq c 88 && (Nat.beq j 3 || Nat.beq j 9 || Nat.beq j 10 || Nat.beq j 11)
theorem Fr.pvw {σ σ' : fkS} (h : Fr fkPV σ σ') : Fr fkPW σ σ' := h.mono fun c j q => by
  unfold fkPV at q
  unfold fkPW
  simp only [Bool.and_eq_true, Bool.or_eq_true] at q ⊢
  rcases q with ⟨q1, (q2 | q2) | q2⟩
  · exact ⟨q1, Or.inl (Or.inl (Or.inl q2))⟩
  · exact ⟨q1, Or.inl (Or.inl (Or.inr q2))⟩
  · exact ⟨q1, Or.inr q2⟩
theorem Fr.p3w {σ σ' : fkS} (h : Fr fkP3 σ σ') : Fr fkPW σ σ' := h.mono fun c j q => by
  unfold fkP3 at q
  unfold fkPW
  simp only [Bool.and_eq_true, Bool.or_eq_true] at q ⊢
  exact ⟨q.1, Or.inl (Or.inl (Or.inl q.2))⟩
theorem kwG_no {w : List Nat} (h : 5 < w.length) : ∀ (m k : Nat) (c : Int32), kwG w m k c = c := by
  intro m
  induction m with
  | zero => intro k c; rfl
  | succ m ih =>
    intro k c
    rw [kwG, ih, if_neg]
    intro e
    rcases Nat.lt_or_ge k 14 with q | q
    · have := (kws_len q).1
      rw [e] at h
      omega
    · have e2 : kws.getD k [] = [] := by
        rw [List.getD_eq_getElem?_getD, List.getElem?_eq_none (by show 14 ≤ k; exact q)]
        rfl
      rw [e, e2] at h
      exact absurd h (by decide)
section TX
variable {d n : Nat} {t : Nat → UInt8}
theorem tokA_to {a : Nat} (ha : a < n) : a < (tokA t n a).2.2.1 ∧ (tokA t n a).2.2.1 ≤ n ∧ (tokA t n a).2.1 = a ∧ ¬ (tokA t n a).1 = 0 := by
  have run : ∀ {f : Nat → Bool}, f (t a).toNat = true → a < runP f t n a ∧ runP f t n a ≤ n := by
    intro f hf
    have h1 := runP_le (f := f) (t := t) (n := n) (a + 1)
    rw [runP_on ha hf]
    exact ⟨by have := h1.1; omega, h1.2 ha⟩
  cases h1 : cL (t a).toNat
  · cases h2 : cD (t a).toNat
    · rw [tokA_S ha h1 h2]
      have nx : ∀ c : Nat, c < 256 → tbt t n (a + 1) = c → a + 2 ≤ n := by
        intro c hc e
        unfold tbt at e
        by_cases q : a + 1 < n
        · omega
        · rw [if_neg q] at e; omega
      by_cases c1 : (t a).toNat = 61 ∧ tbt t n (a + 1) = 61
      · rw [if_pos c1]
        exact ⟨by show a < a + 2; omega, nx 61 (by decide) c1.2, rfl, show ¬ (3 : Nat) = 0 by decide⟩
      · rw [if_neg c1]
        by_cases c2 : (t a).toNat = 45 ∧ tbt t n (a + 1) = 62
        · rw [if_pos c2]
          exact ⟨by show a < a + 2; omega, nx 62 (by decide) c2.2, rfl, show ¬ (3 : Nat) = 0 by decide⟩
        · rw [if_neg c2]
          by_cases c3 : (t a).toNat ∈ sgs
          · rw [if_pos c3]; exact ⟨Nat.lt_succ_self a, ha, rfl, show ¬ (3 : Nat) = 0 by decide⟩
          · rw [if_neg c3]; exact ⟨Nat.lt_succ_self a, ha, rfl, show ¬ (4 : Nat) = 0 by decide⟩
    · rw [tokA_D ha h1 h2]
      refine ⟨(run h2).1, (run h2).2, rfl, ?_⟩
      show ¬ (if nvT t a (runP cD t n a) < 2147483648 then 2 else 4) = 0
      split <;> decide
  · rw [tokA_L ha h1]
    have hw : cW (t a).toNat = true := by unfold cW; rw [h1]; rfl
    refine ⟨(run hw).1, (run hw).2, rfl, ?_⟩
    show ¬ (if runP cW t n a - a ≤ 10 then 1 else 4) = 0
    split <;> decide
/-- one TOKEN -/
theorem p_one {a : Nat} {σ : fkS} (h : PTx t n σ) (h3 : σ.1 88 3 = nI a) (ha : a < n) : Dv (d + 6) 148 [.ref 88, .int (nI (t a).toNat)] σ (fun s => Fr fkPW σ s ∧ s.1 88 3 = nI (tokA t n a).2.2.1 ∧ s.1 88 10 = nI a ∧ s.1 88 9 = kX t (tokA t n a) ∧ vX t (tokA t n a) (s.2.1 88 11)) := by
  have hb := (t a).toNat_lt
  refine S_Parser_oneToken ?_
  rw [h3]
  have f0 : Fr fkPW σ (sL (sI σ 88 10 (nI a)) 88 11 0) := (Fr.rf.sI rfl).sL rfl
  have h' : PTx t n (sL (sI σ 88 10 (nI a)) 88 11 0) := h.fr f0 (fun _ => rfl) rfl rfl
  have h3' : (sL (sI σ 88 10 (nI a)) 88 11 0).1 88 3 = nI a := (show (sI σ 88 10 (nI a)).1 88 3 = σ.1 88 3 from sI_so (by decide)).trans h3
  have h10' : (sL (sI σ 88 10 (nI a)) 88 11 0).1 88 10 = nI a := show (sI σ 88 10 (nI a)).1 88 10 = nI a from sI_ss
  have h11' : (sL (sI σ 88 10 (nI a)) 88 11 0).2.1 88 11 = 0 := sL_ss
  have hr' : (sL (sI σ 88 10 (nI a)) 88 11 0).2.2 = σ.2.2 := rfl
  generalize sL (sI σ 88 10 (nI a)) 88 11 0 = s0 at f0 h' h3' h10' h11' hr' ⊢
  refine (p_letter (c := (t a).toNat) (by omega)).mono fun x s hx => ?_
  obtain ⟨v1, rfl, e1, rfl, rfl⟩ := Qi_s hx
  refine ⟨e1, ?_⟩
  simp only [sW_eq hr']
  refine ⟨fun z => ?_, fun z => ?_⟩
  · have h1 : cL (t a).toNat = false := by
      cases q : cL (t a).toNat
      · rfl
      · rw [q] at z; exact absurd z (by decide)
    refine (p_digit (c := (t a).toNat) (by omega)).mono fun x s2 hx => ?_
    obtain ⟨v1, rfl, e2, rfl, rfl⟩ := Qi_s hx
    refine ⟨e2, ?_⟩
    simp only [sW_eq hr']
    refine ⟨fun z2 => ?_, fun z2 => ?_⟩
    · have h2 : cD (t a).toNat = false := by
        cases q : cD (t a).toNat
        · rfl
        · rw [q] at z2; exact absurd z2 (by decide)
      refine (p_sign (d := d + 1) h' h3' h10' ha h1 h2).mono fun x s3 hx => ?_
      obtain ⟨rfl, g1, g2, g3, g4⟩ := Qv_s hx
      refine ⟨g1, ?_⟩
      simp only [sW_eq (g1.trans hr')]
      refine ⟨g1.trans hr', f0.tr g2.pvw, g3, (g2 88 10 rfl).1.trans h10', g4, ?_⟩
      have k3 : (tokA t n a).1 = 3 ∨ (tokA t n a).1 = 4 := by
        rw [tokA_S ha h1 h2]
        by_cases c1 : (t a).toNat = 61 ∧ tbt t n (a + 1) = 61
        · rw [if_pos c1]; exact Or.inl rfl
        · rw [if_neg c1]
          by_cases c2 : (t a).toNat = 45 ∧ tbt t n (a + 1) = 62
          · rw [if_pos c2]; exact Or.inl rfl
          · rw [if_neg c2]
            by_cases c3 : (t a).toNat ∈ sgs
            · rw [if_pos c3]; exact Or.inl rfl
            · rw [if_neg c3]; exact Or.inr rfl
      exact ⟨fun q => by omega, fun q => by omega⟩
    · have h2 : cD (t a).toNat = true := by
        cases q : cD (t a).toNat
        · rw [q] at z2; exact absurd rfl z2
        · rfl
      refine (p_number (d := d + 4) h' h3' (by omega) h11').mono fun x s3 hx => ?_
      obtain ⟨rfl, g1, g2, g3, g4, g5⟩ := Qv_s hx
      refine ⟨g1, ?_⟩
      simp only [sW_eq (g1.trans hr')]
      rw [tokA_D ha h1 h2]
      refine ⟨g1.trans hr', f0.tr g2.pvw, g3, (g2 88 10 rfl).1.trans h10', g5.trans ?_, fun q => ?_, fun _ => g4⟩
      · by_cases c : nvT t a (runP cD t n a) < 2147483648
        · rw [if_pos c, if_pos c]; rfl
        · rw [if_neg c, if_neg c]; rfl
      · exfalso
        revert q
        show ¬ (if nvT t a (runP cD t n a) < 2147483648 then 2 else 4) = 1
        split <;> decide
  · have h1 : cL (t a).toNat = true := by
      cases q : cL (t a).toNat
      · rw [q] at z; exact absurd rfl z
      · rfl
    refine (p_word (d := d) h' h3' h10' (by omega) h11').mono fun x s3 hx => ?_
    obtain ⟨rfl, g1, g2, g3, g4, g5⟩ := Qv_s hx
    refine ⟨g1, ?_⟩
    simp only [sW_eq (g1.trans hr')]
    rw [tokA_L ha h1]
    refine ⟨g1.trans hr', f0.tr g2.pvw, g3, (g2 88 10 rfl).1.trans h10', g5.trans ?_, fun _ => g4, fun q => ?_⟩
    · by_cases c : runP cW t n a - a ≤ 10
      · rw [if_pos c, if_pos c]; rfl
      · rw [if_neg c, if_neg c, kwG_no (by rw [tw_len]; omega)]; rfl
    · exfalso
      revert q
      show ¬ (if runP cW t n a - a ≤ 10 then 1 else 4) = 2
      split <;> decide
/-- the TOKENS from p on, the end with them -/
def tks (t : Nat → UInt8) (n : Nat) : Nat → Nat → List (Nat × Nat × Nat × Nat)
  | 0, _ => []
  | k + 1, p => tok t n p :: (if (tok t n p).1 = 0 then [] else tks t n k (tok t n p).2.2.1)
/-- the rows say these TOKENS -/
def TR (t : Nat → UInt8) (L : List (Nat × Nat × Nat × Nat)) (σ : fkS) : Prop := σ.1 88 7 = nI L.length ∧ ∀ i q, L[i]? = some q → σ.1 90 i = kX t q ∧ σ.1 91 i = nI q.2.1 ∧ vX t q (σ.2.1 92 i)
theorem TR.fr {L : List (Nat × Nat × Nat × Nat)} {σ σ' : fkS} (h : TR t L σ) (hf : Fr fkPW σ σ') : TR t L σ' := by
  refine ⟨(hf 88 7 rfl).1.trans h.1, fun i q hq => ?_⟩
  obtain ⟨a1, a2, a3⟩ := h.2 i q hq
  refine ⟨(hf 90 i rfl).1.trans a1, (hf 91 i rfl).1.trans a2, ?_⟩
  rw [(hf 92 i rfl).2.1]
  exact a3
def fkTK (c j : Nat) : Bool := Nat.beq c 90 || Nat.beq c 91 || Nat.beq c 92 || (Nat.beq c 88 && Nat.beq j 7)
theorem p_keep {L : List (Nat × Nat × Nat × Nat)} {q : Nat × Nat × Nat × Nat} {σ : fkS} (h : TR t L σ) (hl : L.length < 4001) (h1 : σ.1 88 9 = kX t q) (h2 : σ.1 88 10 = nI q.2.1) (h3 : vX t q (σ.2.1 88 11)) : Dv d 181 [.ref 88] σ (fun s => Fr fkTK σ s ∧ TR t (L ++ [q]) s) := by
  refine S_Parser_keepToken ⟨fun z => ?_, fun _ => ?_⟩
  · rw [h.1] at z
    exact absurd z (nI_ge (b := 4001) hl (by decide))
  · have e : (nI L.length).toNatClampNeg = L.length := nI_clamp (by omega)
    have vi : vp_in (nI L.length) 4001 := vp_in_nI hl (by decide)
    rw [h.1, e, h1, h2]
    refine ⟨vi, vi, vi, rfl, (((Fr.rf.sI rfl).sI rfl).sL rfl).sI rfl, ?_, fun i q2 hq => ?_⟩
    · rw [List.length_append]
      exact sI_ss.trans (nI_succ L.length).symm
    · have r90 : (sI (sL (sI (sI σ 90 L.length (kX t q)) 91 L.length (nI q.2.1)) 92 L.length (σ.2.1 88 11)) 88 7 (nI L.length + 1)).1 90 = (sI σ 90 L.length (kX t q)).1 90 := (sI_o (by decide)).trans (show (sI (sI σ 90 L.length (kX t q)) 91 L.length (nI q.2.1)).1 90 = _ from sI_o (by decide))
      have r91 : (sI (sL (sI (sI σ 90 L.length (kX t q)) 91 L.length (nI q.2.1)) 92 L.length (σ.2.1 88 11)) 88 7 (nI L.length + 1)).1 91 = (sI (sI σ 90 L.length (kX t q)) 91 L.length (nI q.2.1)).1 91 := sI_o (by decide)
      have r92 : (sI (sL (sI (sI σ 90 L.length (kX t q)) 91 L.length (nI q.2.1)) 92 L.length (σ.2.1 88 11)) 88 7 (nI L.length + 1)).2.1 92 = (sL σ 92 L.length (σ.2.1 88 11)).2.1 92 := rfl
      rw [r90, r91, r92]
      by_cases c : i < L.length
      · rw [List.getElem?_append_left c] at hq
        obtain ⟨a1, a2, a3⟩ := h.2 i q2 hq
        have ne : i ≠ L.length := by omega
        refine ⟨(sI_so ne).trans a1, (sI_so ne).trans ((congrFun (sI_o (by decide)) i).trans a2), ?_⟩
        rw [sL_so ne]
        exact a3
      · have c2 : i = L.length := by
          have := (List.getElem?_eq_some_iff.mp hq).1
          rw [List.length_append] at this
          have l1 : [q].length = 1 := rfl
          omega
        subst c2
        rw [List.getElem?_append_right (Nat.le_refl _), Nat.sub_self] at hq
        have : q = q2 := Option.some.inj hq
        subst this
        refine ⟨sI_ss, sI_ss, ?_⟩
        rw [sL_ss]
        exact h3
end TX
