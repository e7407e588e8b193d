/-! the class's kinds and what the reference asks are the same -/
theorem kw_self : (List.range 14).all (fun j => decide (kwG (kws.getD j []) 14 0 1 = nI (4 + j))) = true := by decide +kernel
theorem kwG_none {w : List Nat} (h : ∀ j, j < 14 → ¬ w = kws.getD j []) : ∀ (m k : Nat) (c : Int32), m + k = 14 → kwG w m k c = c := by
  intro m
  induction m with
  | zero => intro k c _; rfl
  | succ m ih =>
    intro k c hk
    rw [kwG, if_neg (h k (by omega)), ih (k + 1) c (by omega)]
theorem kwG_at {w : List Nat} {j : Nat} (hj : j < 14) (h : w = kws.getD j []) : kwG w 14 0 1 = nI (4 + j) := by
  subst h
  exact of_decide_eq_true (List.all_eq_true.mp kw_self j (List.mem_range.mpr hj))
theorem kw_cases (w : List Nat) : (∃ j, j < 14 ∧ w = kws.getD j [] ∧ kwG w 14 0 1 = nI (4 + j)) ∨ ((∀ j, j < 14 → ¬ w = kws.getD j []) ∧ kwG w 14 0 1 = 1) := by
  by_cases c : ∃ j, j < 14 ∧ w = kws.getD j []
  · obtain ⟨j, hj, e⟩ := c
    exact Or.inl ⟨j, hj, e, kwG_at hj e⟩
  · have c2 : ∀ j, j < 14 → ¬ w = kws.getD j [] := fun j hj e => c ⟨j, hj, e⟩
    exact Or.inr ⟨c2, kwG_none c2 14 0 1 rfl⟩
theorem kw_inj {w : List Nat} {j k : Nat} (hj : j < 14) (hk : k < 14) (h1 : w = kws.getD j []) (h2 : w = kws.getD k []) : j = k := by
  have e := (kwG_at hj h1).symm.trans (kwG_at hk h2)
  have := (nI_eq (by omega) (by omega)).mp e
  omega
section KK
variable {n : Nat} {t : Nat → UInt8}
/-- which sign a TOKEN may be -/
theorem tok_sg (p : Nat) : (tok t n p).1 = 3 → (tok t n p).2.2.2 ∈ 128 :: 129 :: sgs := by
  unfold tok tokA
  simp only
  repeat' split
  all_goals first | (intro z; exact absurd (show (0 : Nat) = 3 from z) (by decide)) | (intro z; exact absurd (show (1 : Nat) = 3 from z) (by decide)) | (intro z; exact absurd (show (2 : Nat) = 3 from z) (by decide)) | (intro z; exact absurd (show (4 : Nat) = 3 from z) (by decide)) | (intro _; exact (show (128 : Nat) ∈ 128 :: 129 :: sgs by decide)) | (intro _; exact (show (129 : Nat) ∈ 128 :: 129 :: sgs by decide)) | (rename_i z; intro _; exact List.mem_cons_of_mem _ (List.mem_cons_of_mem _ z))
theorem tkAt_sg {i : Nat} (h : (tkAt t n i).1 = 3) : (tkAt t n i).2.2.2 ∈ 128 :: 129 :: sgs := by
  obtain ⟨p, hp, e⟩ := tkAt_to (t := t) (n := n) i
  rw [e] at h ⊢
  exact tok_sg p h
theorem sg_all : (128 :: 129 :: sgs).all (fun s => decide (18 ≤ s ∧ s < 256)) = true := by decide
theorem sg_M : (128 :: 129 :: sgs).all (fun s => (128 :: 129 :: sgs).all (fun r => decide (sM s = sM r ↔ s = r))) = true := by decide +kernel
theorem tkAt_sgb {i : Nat} (h : (tkAt t n i).1 = 3) : 18 ≤ (tkAt t n i).2.2.2 ∧ (tkAt t n i).2.2.2 < 256 := of_decide_eq_true (List.all_eq_true.mp sg_all _ (tkAt_sg h))
/-- the five things that a TOKEN may be, and its kind -/
theorem kX_cases (i : Nat) : ((tkAt t n i).1 = 0 ∧ kX t (tkAt t n i) = 0) ∨ ((tkAt t n i).1 = 1 ∧ kX t (tkAt t n i) = kwG (tw t (tkAt t n i).2.1 (tkAt t n i).2.2.1) 14 0 1) ∨ ((tkAt t n i).1 = 2 ∧ kX t (tkAt t n i) = 2) ∨ ((tkAt t n i).1 = 3 ∧ kX t (tkAt t n i) = nI (tkAt t n i).2.2.2) ∨ ((tkAt t n i).1 = 4 ∧ kX t (tkAt t n i) = 3) := by
  have h4 := tkAt_k4 (t := t) (n := n) i
  unfold kX
  generalize tkAt t n i = q at h4 ⊢
  rcases (show q.1 = 0 ∨ q.1 = 1 ∨ q.1 = 2 ∨ q.1 = 3 ∨ q.1 = 4 by omega) with c | c | c | c | c
  · exact Or.inl ⟨c, by rw [if_pos c]⟩
  · exact Or.inr (Or.inl ⟨c, by rw [if_neg (by omega), if_pos c]⟩)
  · exact Or.inr (Or.inr (Or.inl ⟨c, by rw [if_neg (by omega), if_neg (by omega), if_pos c]⟩))
  · exact Or.inr (Or.inr (Or.inr (Or.inl ⟨c, by rw [if_neg (by omega), if_neg (by omega), if_neg (by omega), if_pos c]⟩)))
  · exact Or.inr (Or.inr (Or.inr (Or.inr ⟨c, by rw [if_neg (by omega), if_neg (by omega), if_neg (by omega), if_neg (by omega)]⟩)))
/-- the kind of a word is 1 or 4 to 17 -/
theorem kw_kind (w : List Nat) : ∃ k, k < 18 ∧ kwG w 14 0 1 = nI k ∧ (k = 1 ∨ 4 ≤ k) := by
  rcases kw_cases w with ⟨j, hj, -, e⟩ | ⟨-, e⟩
  · exact ⟨4 + j, by omega, e, Or.inr (by omega)⟩
  · exact ⟨1, by omega, e, Or.inl rfl⟩
theorem kX_sign {i s : Nat} (hs : s ∈ 128 :: 129 :: sgs) : kX t (tkAt t n i) = nI s ↔ (tkAt t n i).1 = 3 ∧ sM (tkAt t n i).2.2.2 = sM s := by
  have hb := of_decide_eq_true (List.all_eq_true.mp sg_all s hs)
  have no : ∀ k : Nat, k < 18 → ¬ nI k = nI s := fun k hk e => by
    have := (nI_eq (by omega) (by omega)).mp e
    omega
  rcases kX_cases (t := t) (n := n) i with ⟨c, e⟩ | ⟨c, e⟩ | ⟨c, e⟩ | ⟨c, e⟩ | ⟨c, e⟩
  · rw [e]; exact ⟨fun z => absurd z (no 0 (by omega)), fun z => by omega⟩
  · rw [e]
    obtain ⟨k, hk, e2, -⟩ := kw_kind (tw t (tkAt t n i).2.1 (tkAt t n i).2.2.1)
    rw [e2]
    exact ⟨fun z => absurd z (no k hk), fun z => by omega⟩
  · rw [e]; exact ⟨fun z => absurd z (no 2 (by omega)), fun z => by omega⟩
  · have hsb := tkAt_sgb c
    have hm := of_decide_eq_true (List.all_eq_true.mp (List.all_eq_true.mp sg_M _ (tkAt_sg c)) s hs)
    rw [e, nI_eq (by omega) (by omega)]
    exact ⟨fun z => ⟨c, hm.mpr z⟩, fun z => hm.mp z.2⟩
  · rw [e]; exact ⟨fun z => absurd z (no 3 (by omega)), fun z => by omega⟩
theorem kX_kw {i j : Nat} (hj : j < 14) : kX t (tkAt t n i) = nI (4 + j) ↔ (tkAt t n i).1 = 1 ∧ tw t (tkAt t n i).2.1 (tkAt t n i).2.2.1 = kws.getD j [] := by
  have no : ∀ k : Nat, k < 4 ∨ 18 ≤ k ∧ k < 256 → ¬ nI k = nI (4 + j) := fun k hk e => by
    have := (nI_eq (by omega) (by omega)).mp e
    omega
  rcases kX_cases (t := t) (n := n) i with ⟨c, e⟩ | ⟨c, e⟩ | ⟨c, e⟩ | ⟨c, e⟩ | ⟨c, e⟩
  · rw [e]; exact ⟨fun z => absurd z (no 0 (by omega)), fun z => by omega⟩
  · rw [e]
    rcases kw_cases (tw t (tkAt t n i).2.1 (tkAt t n i).2.2.1) with ⟨k, hk, e1, e2⟩ | ⟨e1, e2⟩
    · rw [e2, nI_eq (by omega) (by omega)]
      refine ⟨fun z => ⟨c, ?_⟩, fun z => ?_⟩
      · have : k = j := by omega
        rw [← this]; exact e1
      · have := kw_inj hk hj e1 z.2
        omega
    · rw [e2]
      exact ⟨fun z => absurd z (no 1 (by omega)), fun z => absurd z.2 (e1 j hj)⟩
  · rw [e]; exact ⟨fun z => absurd z (no 2 (by omega)), fun z => by omega⟩
  · have hsb := tkAt_sgb c
    rw [e]; exact ⟨fun z => absurd z (no _ (Or.inr hsb)), fun z => by omega⟩
  · rw [e]; exact ⟨fun z => absurd z (no 3 (by omega)), fun z => by omega⟩
theorem kX_name {i : Nat} : kX t (tkAt t n i) = 1 ↔ (tkAt t n i).1 = 1 ∧ ∀ j, j < 14 → ¬ tw t (tkAt t n i).2.1 (tkAt t n i).2.2.1 = kws.getD j [] := by
  have no : ∀ k : Nat, k ≠ 1 → k < 256 → ¬ nI k = 1 := fun k hk hk2 e => hk ((nI_eq (b := 1) (by omega) (by decide)).mp e)
  rcases kX_cases (t := t) (n := n) i with ⟨c, e⟩ | ⟨c, e⟩ | ⟨c, e⟩ | ⟨c, e⟩ | ⟨c, e⟩
  · rw [e]; exact ⟨fun z => absurd z (no 0 (by omega) (by omega)), fun z => by omega⟩
  · rw [e]
    rcases kw_cases (tw t (tkAt t n i).2.1 (tkAt t n i).2.2.1) with ⟨k, hk, e1, e2⟩ | ⟨e1, e2⟩
    · rw [e2]
      exact ⟨fun z => absurd z (no _ (by omega) (by omega)), fun z => absurd e1 (z.2 k hk)⟩
    · rw [e2]
      exact ⟨fun _ => ⟨c, e1⟩, fun _ => rfl⟩
  · rw [e]; exact ⟨fun z => absurd z (no 2 (by omega) (by omega)), fun z => by omega⟩
  · have hsb := tkAt_sgb c
    rw [e]; exact ⟨fun z => absurd z (no _ (by omega) (by omega)), fun z => by omega⟩
  · rw [e]; exact ⟨fun z => absurd z (no 3 (by omega) (by omega)), fun z => by omega⟩
theorem kX_num {i : Nat} : (kX t (tkAt t n i) = 2 ↔ (tkAt t n i).1 = 2) ∧ (kX t (tkAt t n i) = 0 ↔ (tkAt t n i).1 = 0) := by
  have no : ∀ a b : Nat, a ≠ b → a < 256 → b < 256 → ¬ nI a = nI b := fun a b hk h1 h2 e => hk ((nI_eq (by omega) (by omega)).mp e)
  rcases kX_cases (t := t) (n := n) i with ⟨c, e⟩ | ⟨c, e⟩ | ⟨c, e⟩ | ⟨c, e⟩ | ⟨c, e⟩
  · rw [e]; exact ⟨⟨fun z => absurd z (by decide), fun z => by omega⟩, ⟨fun _ => c, fun _ => rfl⟩⟩
  · rw [e]
    obtain ⟨k, hk, e2, hk2⟩ := kw_kind (tw t (tkAt t n i).2.1 (tkAt t n i).2.2.1)
    rw [e2]
    exact ⟨⟨fun z => absurd z (no k 2 (by omega) (by omega) (by omega)), fun z => by omega⟩, ⟨fun z => absurd z (no k 0 (by omega) (by omega) (by omega)), fun z => by omega⟩⟩
  · rw [e]; exact ⟨⟨fun _ => c, fun _ => rfl⟩, ⟨fun z => absurd z (by decide), fun z => by omega⟩⟩
  · have hsb := tkAt_sgb c
    rw [e]; exact ⟨⟨fun z => absurd z (no _ 2 (by omega) (by omega) (by omega)), fun z => by omega⟩, ⟨fun z => absurd z (no _ 0 (by omega) (by omega) (by omega)), fun z => by omega⟩⟩
  · rw [e]; exact ⟨⟨fun z => absurd z (by decide), fun z => by omega⟩, ⟨fun z => absurd z (by decide), fun z => by omega⟩⟩
end KK
