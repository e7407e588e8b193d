/-! TOKEN after TOKEN, on both sides -/
/-- TOKEN i; behind the end the end -/
def tkAt (t : Nat → UInt8) (n : Nat) : Nat → Nat × Nat × Nat × Nat
  | 0 => tok t n 0
  | i + 1 => if (tkAt t n i).1 = 0 then tkAt t n i else tok t n (tkAt t n i).2.2.1
section TA
variable {d n : Nat} {t : Nat → UInt8}
theorem tok_to {p : Nat} (hp : p ≤ n) : (tok t n p).2.1 ≤ (tok t n p).2.2.1 ∧ (tok t n p).2.2.1 ≤ n ∧ (¬ (tok t n p).1 = 0 → p < (tok t n p).2.2.1) ∧ ((tok t n p).1 = 0 → tok t n p = (0, n, n, 0)) := by
  have hle := runP_le (f := cB) (t := t) (n := n) p
  unfold tok
  by_cases c : runP cB t n p < n
  · obtain ⟨b1, b2, b3, b4⟩ := tokA_to (t := t) c
    exact ⟨by rw [b3]; omega, b2, fun _ => by have := hle.1; omega, fun z => absurd z b4⟩
  · have e : runP cB t n p = n := by have := hle.2 hp; omega
    rw [e, tokA_E (by omega)]
    exact ⟨Nat.le_refl n, Nat.le_refl n, fun z => absurd rfl z, fun _ => rfl⟩
theorem tkAt_to : ∀ i, ∃ p, p ≤ n ∧ tkAt t n i = tok t n p
  | 0 => ⟨0, Nat.zero_le n, rfl⟩
  | i + 1 => by
    obtain ⟨p, hp, e⟩ := tkAt_to i
    rw [tkAt]
    by_cases c : (tkAt t n i).1 = 0
    · rw [if_pos c]; exact ⟨p, hp, e⟩
    · rw [if_neg c, e]
      exact ⟨(tok t n p).2.2.1, (tok_to hp).2.1, rfl⟩
theorem tok_end : tok t n n = (0, n, n, 0) := by
  have hle := runP_le (f := cB) (t := t) (n := n) n
  have e : runP cB t n n = n := Nat.le_antisymm (hle.2 (Nat.le_refl n)) hle.1
  unfold tok
  rw [e]
  exact tokA_E (by omega)
theorem tkAt_nx (i : Nat) : tkAt t n (i + 1) = tok t n (tkAt t n i).2.2.1 := by
  rw [tkAt]
  by_cases c : (tkAt t n i).1 = 0
  · obtain ⟨p, hp, e⟩ := tkAt_to (t := t) (n := n) i
    rw [if_pos c]
    rw [e] at c ⊢
    rw [(tok_to hp).2.2.2 c]
    exact tok_end.symm
  · rw [if_neg c]
theorem tkAt_le (i : Nat) : (tkAt t n i).2.1 ≤ (tkAt t n i).2.2.1 ∧ (tkAt t n i).2.2.1 ≤ n := by
  obtain ⟨p, hp, e⟩ := tkAt_to (t := t) (n := n) i
  rw [e]
  exact ⟨(tok_to hp).1, (tok_to hp).2.1⟩
theorem tok_k4 (p : Nat) : (tok t n p).1 ≤ 4 := by
  unfold tok tokA
  simp only
  repeat' split
  all_goals simp
theorem tkAt_k4 (i : Nat) : (tkAt t n i).1 ≤ 4 := by
  obtain ⟨p, hp, e⟩ := tkAt_to (t := t) (n := n) i
  rw [e]
  exact tok_k4 p
theorem tks_len : ∀ (f p : Nat), (tks t n f p).length ≤ f
  | 0, _ => Nat.le_refl 0
  | f + 1, p => by
    rw [tks, List.length_cons]
    have := tks_len f (tok t n p).2.2.1
    split
    · simp
    · omega
theorem tks_nx : ∀ (f p j : Nat) (q : Nat × Nat × Nat × Nat), n + 1 - p ≤ f → p ≤ n → (tks t n f p)[j]? = some q → (¬ q.1 = 0 → (tks t n f p)[j + 1]? = some (tok t n q.2.2.1)) ∧ (q.1 = 0 → (tks t n f p).length = j + 1)
  | 0, p, j, q, hf, hp, h => by omega
  | f + 1, p, j, q, hf, hp, h => by
    have ht := tok_to (t := t) hp
    rw [tks] at h ⊢
    by_cases c : (tok t n p).1 = 0
    · rw [if_pos c] at h ⊢
      cases j with
      | zero =>
        have e : tok t n p = q := Option.some.inj h
        subst e
        exact ⟨fun z => absurd c z, fun _ => rfl⟩
      | succ j => simp at h
    · rw [if_neg c] at h ⊢
      have h2 := ht.2.2.1 c
      have hf2 : n + 1 - (tok t n p).2.2.1 ≤ f := by omega
      cases j with
      | zero =>
        have e : tok t n p = q := Option.some.inj h
        subst e
        refine ⟨fun _ => ?_, fun z => absurd z c⟩
        cases f with
        | zero => omega
        | succ f => rfl
      | succ j =>
        have ih := tks_nx f (tok t n p).2.2.1 j q hf2 ht.2.1 (by simpa using h)
        refine ⟨fun z => by simpa using ih.1 z, fun z => ?_⟩
        rw [List.length_cons, ih.2 z]
/-- the class looks at TOKEN i -/
def AtX (t : Nat → UInt8) (n i : Nat) (σ : fkS) : Prop := TR t (tks t n (n + 1) 0) σ ∧ ∃ j, (tks t n (n + 1) 0)[j]? = some (tkAt t n i) ∧ σ.1 88 8 = nI j ∧ σ.1 88 9 = kX t (tkAt t n i) ∧ σ.1 88 10 = nI (tkAt t n i).2.1 ∧ vX t (tkAt t n i) (σ.2.1 88 11)
def fkPA (c j : Nat) : Bool := Nat.beq c 88 && (Nat.beq j 8 || Nat.beq j 9 || Nat.beq j 10 || Nat.beq j 11)
theorem TR.fg {L : List (Nat × Nat × Nat × Nat)} {σ σ' : fkS} {S : Nat → Nat → Bool} (h : TR t L σ) (hf : Fr S σ σ') (h7 : S 88 7 = false) (h90 : ∀ j, S 90 j = false) (h91 : ∀ j, S 91 j = false) (h92 : ∀ j, S 92 j = false) : TR t L σ' := by
  refine ⟨(hf 88 7 h7).1.trans h.1, fun i q hq => ?_⟩
  obtain ⟨a1, a2, a3⟩ := h.2 i q hq
  refine ⟨(hf 90 i (h90 i)).1.trans a1, (hf 91 i (h91 i)).1.trans a2, ?_⟩
  rw [(hf 92 i (h92 i)).2.1]
  exact a3
theorem p_advT {j : Nat} {q : Nat × Nat × Nat × Nat} {σ : fkS} (hn : n ≤ 4000) (hT : TR t (tks t n (n + 1) 0) σ) (h8 : σ.1 88 8 + 1 = nI j) (hj : (tks t n (n + 1) 0)[j]? = some q) : Dv d 182 [.ref 88] σ (fun s => Fr fkPA σ s ∧ TR t (tks t n (n + 1) 0) s ∧ s.1 88 8 = nI j ∧ s.1 88 9 = kX t q ∧ s.1 88 10 = nI q.2.1 ∧ vX t q (s.2.1 88 11)) := by
  have hl := tks_len (t := t) (n := n) (n + 1) 0
  have hjl := (List.getElem?_eq_some_iff.mp hj).1
  refine S_Parser_advance ?_
  rw [hT.1, h8]
  refine ⟨fun z => absurd z (nI_ge hjl (by omega)), fun _ => ?_⟩
  have vi : vp_in (nI j) 4001 := vp_in_nI (by omega) (by decide)
  refine ⟨vi, vi, vi, ?_⟩
  have e : (nI j).toNatClampNeg = j := nI_clamp (by omega)
  rw [e]
  obtain ⟨a1, a2, a3⟩ := hT.2 j q hj
  rw [a1, a2]
  have f0 : Fr fkPA σ (sL (sI (sI (sI σ 88 8 (nI j)) 88 9 (kX t q)) 88 10 (nI q.2.1)) 88 11 (σ.2.1 92 j)) := (((Fr.rf.sI rfl).sI rfl).sI rfl).sL rfl
  refine ⟨rfl, f0, hT.fg f0 rfl (fun _ => rfl) (fun _ => rfl) (fun _ => rfl), ?_, ?_, ?_, ?_⟩
  · exact (show (sI (sI (sI σ 88 8 (nI j)) 88 9 (kX t q)) 88 10 (nI q.2.1)).1 88 8 = nI j from (sI_so (by decide)).trans ((sI_so (by decide)).trans sI_ss))
  · exact (show (sI (sI (sI σ 88 8 (nI j)) 88 9 (kX t q)) 88 10 (nI q.2.1)).1 88 9 = kX t q from (sI_so (by decide)).trans sI_ss)
  · exact (show (sI (sI (sI σ 88 8 (nI j)) 88 9 (kX t q)) 88 10 (nI q.2.1)).1 88 10 = nI q.2.1 from sI_ss)
  · rw [sL_ss]; exact a3
theorem p_adv {i : Nat} {σ : fkS} (hn : n ≤ 4000) (h : AtX t n i σ) : Dv d 182 [.ref 88] σ (fun s => Fr fkPA σ s ∧ AtX t n (i + 1) s) := by
  obtain ⟨hT, j, hj, h8, h9, h10, h11⟩ := h
  have nx := tks_nx (t := t) (n := n) (n + 1) 0 j _ (by omega) (Nat.zero_le n) hj
  by_cases c : (tkAt t n i).1 = 0
  · have e : tkAt t n (i + 1) = tkAt t n i := by rw [tkAt, if_pos c]
    have hl := tks_len (t := t) (n := n) (n + 1) 0
    have hlen := nx.2 c
    have e1 : nI j + 1 = nI (j + 1) := (nI_succ j).symm
    refine S_Parser_advance ?_
    rw [hT.1, h8, e1, hlen]
    refine ⟨fun _ => ⟨rfl, Fr.rf, hT, j, ?_, h8, ?_, ?_, ?_⟩, fun z => absurd (Int32.le_refl _) z⟩
    · rw [e]; exact hj
    · rw [e]; exact h9
    · rw [e]; exact h10
    · rw [e]; exact h11
  · have e : tkAt t n (i + 1) = tok t n (tkAt t n i).2.2.1 := by rw [tkAt, if_neg c]
    refine (p_advT (d := d) (j := j + 1) hn hT (by rw [h8]; exact (nI_succ j).symm) (nx.1 c)).mono fun x s hx => ?_
    obtain ⟨rfl, g0, g1, g2, g3, g4, g5, g6⟩ := Qv_s hx
    refine ⟨g0, g1, g2, j + 1, ?_, g3, ?_, ?_, ?_⟩
    · rw [e]; exact nx.1 c
    · rw [e]; exact g4
    · rw [e]; exact g5
    · rw [e]; exact g6
/-- the first: 88.8 = -1 -/
theorem p_adv0 {σ : fkS} (hn : n ≤ 4000) (hT : TR t (tks t n (n + 1) 0) σ) (h8 : σ.1 88 8 = -1) : Dv d 182 [.ref 88] σ (fun s => Fr fkPA σ s ∧ AtX t n 0 s) := by
  have h0 : (tks t n (n + 1) 0)[0]? = some (tkAt t n 0) := rfl
  refine (p_advT (d := d) (j := 0) hn hT (by rw [h8]; rfl) h0).mono fun x s hx => ?_
  obtain ⟨rfl, g0, g1, g2, g3, g4, g5, g6⟩ := Qv_s hx
  exact ⟨g0, g1, g2, 0, h0, g3, g4, g5, g6⟩
/-- the reference looks at TOKEN i -/
def AtM (t : Nat → UInt8) (n i : Nat) (σ : fkS) : Prop := PTm t n σ ∧ TkM t (tkAt t n i) σ
theorem m_adv {i : Nat} {σ : fkS} (h : AtM t n i σ) : Cv (d + 4) 325 [.ref 103] σ (fun s => Fr fkMS σ s ∧ AtM t n (i + 1) s) := by
  refine (m_scan h.1 h.2.2.2.1 (tkAt_le i).2).mono fun x s hx => ?_
  obtain ⟨rfl, g1, g2⟩ := Qv_s hx
  refine ⟨g1, h.1.fs g1, ?_⟩
  rw [tkAt_nx]
  exact g2
end TA
