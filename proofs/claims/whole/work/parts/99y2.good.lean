/-! what comes of the parser: facts of its trees -/
section GD
variable {t : Nat → UInt8} {n : Nat}
theorem eK_inv {k : Int32} {s : PS} (h : (eK t n k s).2.1 = none) : s.2.1 = none ∧ kA t n s.1 = k ∧ eK t n k s = nxt s := by
  have h2 : (exK t n (decide (kX t (tkAt t n s.1) = k)) s.1 s.2.1).2 = none := h
  by_cases c : s.2.1 = none ∧ decide (kX t (tkAt t n s.1) = k) = true
  · refine ⟨c.1, of_decide_eq_true c.2, ?_⟩
    unfold eK nxt
    rw [show exK t n (decide (kX t (tkAt t n s.1) = k)) s.1 s.2.1 = (s.1 + 1, none) from if_pos c]
  · rw [show exK t n (decide (kX t (tkAt t n s.1) = k)) s.1 s.2.1 = (s.1, some (s.2.1.getD (tkAt t n s.1).2.1)) from if_neg c] at h2
    cases h2
theorem eK_a {k : Int32} {s : PS} : (eK t n k s).2.2 = s.2.2 := rfl
theorem aA_le (i : Nat) : aA t n i ≤ n := Nat.le_trans (tkAt_le i).1 (tkAt_le i).2
theorem nm_of {i : Nat} (h : kA t n i = 1) : nmOK t n (aA t n i) (zA t n i) := ⟨i, h, rfl, rfl⟩
/-- of an E: what it wants of the room -/
def Gd (t : Nat → UInt8) (n k g : Nat) (s : PS) (r : PS × Tr) : Prop := r.1.2.1 = none → s.2.1 = none ∧ s.2.2 < r.1.2.2 ∧ r.1.2.2 ≤ 400 ∧ s.2.2 + sz r.2 ≤ r.1.2.2 ∧ okT t n r.2 0 0 0 0 ∧ hR r.2 ≤ k ∧ nD r.2 ≤ 2 * g ∧ pD r.2 ≤ g
theorem Gd.up {k k2 g g2 : Nat} {s : PS} {r : PS × Tr} (h : Gd t n k g s r) (hk : k ≤ k2) (hg : g ≤ g2) : Gd t n k2 g2 s r := fun e => by
  obtain ⟨a1, a2, a3, a4, a5, a6, a7, a8⟩ := h e
  exact ⟨a1, a2, a3, a4, a5, by omega, by omega, by omega⟩
section GE
variable {g : Nat} {E : PS → PS × Tr}
theorem Gd_ar (hn : n ≤ 4000) (hE : ∀ s, Gd t n (6 * g) g s (E s)) {a z : Nat} : ∀ (f k : Nat) (s : PS), s.2.2 ≤ 400 → (pAr t n E a z f k s).1.2.1 = none → s.2.2 + sz (pAr t n E a z f k s).2 ≤ (pAr t n E a z f k s).1.2.2 ∧ (pAr t n E a z f k s).1.2.2 ≤ 400 ∧ okT t n (pAr t n E a z f k s).2 1 a z k ∧ hR (pAr t n E a z f k s).2 ≤ 6 * g + 3 ∧ nD (pAr t n E a z f k s).2 ≤ 2 * g ∧ pD (pAr t n E a z f k s).2 ≤ g := by
  intro f
  induction f with
  | zero =>
    intro k s h4 _
    refine ⟨Nat.le_refl _, h4, rfl, Nat.zero_le _, Nat.zero_le _, Nat.zero_le _⟩
  | succ f ih =>
    intro k s h4
    have ha := aA_le (t := t) (n := n) s.1
    rw [pAr]
    by_cases c : (E s).1.2.1 = none ∧ kA t n (E s).1.1 = 44
    · rw [if_pos c]
      intro h
      obtain ⟨a1, a2, a3, a4, a5, a6, a7, a8⟩ := hE s c.1
      obtain ⟨b1, b2, b3, b4, b5, b6⟩ := ih (k + 1) (nxt (E s).1) a3 h
      have b1' : (E s).1.2.2 + sz (pAr t n E a z f (k + 1) (nxt (E s).1)).2 ≤ (pAr t n E a z f (k + 1) (nxt (E s).1)).1.2.2 := b1
      refine ⟨?_, b2, ?_, ?_, ?_, ?_⟩
      · show s.2.2 + (sz (E s).2 + sz (pAr t n E a z f (k + 1) (nxt (E s).1)).2) ≤ (pAr t n E a z f (k + 1) (nxt (E s).1)).1.2.2
        omega
      · exact ok_21.mpr ⟨rfl, rfl, rfl, Nat.le_trans ha hn, rfl, a5, b3⟩
      · show max (min k 3 + hR (E s).2) (hR (pAr t n E a z f (k + 1) (nxt (E s).1)).2) ≤ 6 * g + 3
        omega
      · show max (nD (E s).2) (nD (pAr t n E a z f (k + 1) (nxt (E s).1)).2) ≤ 2 * g
        omega
      · show max (pD (E s).2) (pD (pAr t n E a z f (k + 1) (nxt (E s).1)).2) ≤ g
        omega
    · rw [if_neg c]
      intro h
      obtain ⟨a1, a2, a3, a4, a5, a6, a7, a8⟩ := hE s h
      refine ⟨?_, a3, ?_, ?_, ?_, ?_⟩
      · show s.2.2 + (sz (E s).2 + 0) ≤ (E s).1.2.2
        omega
      · exact ok_21.mpr ⟨rfl, rfl, rfl, Nat.le_trans ha hn, rfl, a5, rfl⟩
      · show max (min k 3 + hR (E s).2) 0 ≤ 6 * g + 3
        omega
      · show max (nD (E s).2) 0 ≤ 2 * g
        omega
      · show max (pD (E s).2) 0 ≤ g
        omega
theorem cnt_ar {a z : Nat} (f k : Nat) (s : PS) : 1 ≤ cnt (pAr t n E a z (f + 1) k s).2 := by
  rw [pAr]
  split
  · show 1 ≤ 1 + cnt _
    omega
  · show 1 ≤ 1 + cnt _
    omega
/-- an ATOM without signs, which is counted already -/
def GP (t : Nat → UInt8) (n g : Nat) (s : PS) (r : PS × Tr) : Prop := r.1.2.1 = none → s.2.2 ≤ r.1.2.2 ∧ r.1.2.2 ≤ 400 ∧ s.2.2 + sz r.2 ≤ r.1.2.2 + 1 ∧ okT t n r.2 0 0 0 0 ∧ hR r.2 ≤ 6 * g + 3 ∧ nD r.2 ≤ 2 * g ∧ pD r.2 ≤ g
theorem GP_pr (hn : n ≤ 4000) (hE : ∀ s, Gd t n (6 * g) g s (E s)) {k : Nat} (hk : k = 6 ∨ k = 7) (s : PS) : GP t n g s (pPr t n E k s) := by
  intro h
  unfold pPr at h ⊢
  generalize es1 : eK t n 40 (nxt s) = s1 at h ⊢
  have w1 := aA_le (t := t) (n := n) s1.1
  simp only at h ⊢
  generalize es2 : eK t n 44 (E s1).1 = s2 at h ⊢
  have w2 := aA_le (t := t) (n := n) s2.1
  obtain ⟨h2, -, e2⟩ := eK_inv h
  obtain ⟨a1, a2, a3, a4, a5, a6, a7, a8⟩ := hE s2 h2
  subst es2
  obtain ⟨h3, -, e3⟩ := eK_inv a1
  obtain ⟨b1, b2, b3, b4, b5, b6, b7, b8⟩ := hE s1 h3
  rw [eK_a] at a2 a4
  have es : s1.2.2 = s.2.2 := by rw [← es1]; rfl
  generalize eK t n 44 (E s1).1 = s2 at a2 a4 a3 a5 a6 a7 a8 h2 w2 ⊢
  have f1 : sz (nd k (aA t n s1.1) (aA t n s2.1) 0 0 (E s1).2 (E s2).2) = 1 + sz (E s1).2 + sz (E s2).2 := by rcases hk with rfl | rfl <;> rfl
  have f2 : hR (nd k (aA t n s1.1) (aA t n s2.1) 0 0 (E s1).2 (E s2).2) = max (hR (E s1).2) (1 + hR (E s2).2) := by rcases hk with rfl | rfl <;> rfl
  have f3 : nD (nd k (aA t n s1.1) (aA t n s2.1) 0 0 (E s1).2 (E s2).2) = max (nD (E s1).2) (nD (E s2).2) := by rcases hk with rfl | rfl <;> rfl
  have f4 : pD (nd k (aA t n s1.1) (aA t n s2.1) 0 0 (E s1).2 (E s2).2) = max (pD (E s1).2) (pD (E s2).2) := by rcases hk with rfl | rfl <;> rfl
  show s.2.2 ≤ (E s2).1.2.2 ∧ (E s2).1.2.2 ≤ 400 ∧ s.2.2 + sz (nd k (aA t n s1.1) (aA t n s2.1) 0 0 (E s1).2 (E s2).2) ≤ (E s2).1.2.2 + 1 ∧ okT t n (nd k (aA t n s1.1) (aA t n s2.1) 0 0 (E s1).2 (E s2).2) 0 0 0 0 ∧ hR (nd k (aA t n s1.1) (aA t n s2.1) 0 0 (E s1).2 (E s2).2) ≤ 6 * g + 3 ∧ nD (nd k (aA t n s1.1) (aA t n s2.1) 0 0 (E s1).2 (E s2).2) ≤ 2 * g ∧ pD (nd k (aA t n s1.1) (aA t n s2.1) 0 0 (E s1).2 (E s2).2) ≤ g
  rw [f1, f2, f3, f4]
  refine ⟨by omega, a3, by omega, ?_, by omega, by omega, by omega⟩
  rcases hk with rfl | rfl
  · exact ok_6.mpr ⟨Nat.le_trans w1 hn, Nat.le_trans w2 hn, b5, a5⟩
  · exact ok_7.mpr ⟨Nat.le_trans w1 hn, Nat.le_trans w2 hn, b5, a5⟩
theorem kX_i2 {i : Nat} (h : kA t n i = 2) : nvT t (tkAt t n i).2.1 (tkAt t n i).2.2.1 < 2147483648 := by
  have h2 : (tkAt t n i).1 = 2 := kX_num.1.mp h
  obtain ⟨p, hp, e⟩ := tkAt_to (t := t) (n := n) i
  rw [e] at h2 ⊢
  revert h2
  unfold tok tokA
  simp only
  repeat' split
  all_goals first | (rename_i z; intro _; exact z) | (intro z; simp at z)
theorem GP_pl (hn : n ≤ 4000) (hE : ∀ s, Gd t n (6 * g) g s (E s)) (s : PS) (h4 : s.2.2 ≤ 400) : GP t n g s (pPl t n E s) := by
  have w1 := aA_le (t := t) (n := n) s.1
  unfold pPl
  by_cases c1 : kA t n s.1 = 1
  · rw [if_pos c1]
    by_cases c2 : kA t n (s.1 + 1) = 40
    · rw [if_pos c2]
      intro h
      obtain ⟨h2, -, e2⟩ := eK_inv h
      obtain ⟨b1, b2, b3, b4, b5, b6⟩ := Gd_ar (a := aA t n s.1) (z := zA t n s.1) hn hE 401 0 (nxt (nxt s)) h4 h2
      have c := cnt_ar (t := t) (n := n) (E := E) (a := aA t n s.1) (z := zA t n s.1) 400 0 (nxt (nxt s))
      generalize pAr t n E (aA t n s.1) (zA t n s.1) 401 0 (nxt (nxt s)) = r at b1 b2 b3 b4 b5 b6 c ⊢
      have b1' : s.2.2 + sz r.2 ≤ r.1.2.2 := b1
      refine ⟨?_, b2, ?_, ?_, ?_, ?_, ?_⟩
      · show s.2.2 ≤ r.1.2.2
        omega
      · show s.2.2 + (1 + sz r.2) ≤ r.1.2.2 + 1
        omega
      · exact ok_3.mpr ⟨nm_of c1, rfl, c, b3, rfl⟩
      · show max 1 (hR r.2) ≤ _
        omega
      · show max (nD r.2) 0 ≤ _
        omega
      · show max (pD r.2) 0 ≤ _
        omega
    · rw [if_neg c2]
      intro _
      refine ⟨Nat.le_refl _, h4, Nat.le_refl _, ok_2.mpr ⟨nm_of c1, rfl, rfl⟩, ?_, Nat.zero_le _, Nat.zero_le _⟩
      show 1 ≤ 6 * g + 3
      omega
  rw [if_neg c1]
  have g1 : 1 ≤ 6 * g + 3 := by omega
  by_cases c2 : kA t n s.1 = 2
  · rw [if_pos c2]
    intro _
    exact ⟨Nat.le_refl _, h4, Nat.le_refl _, ok_0.mpr ⟨kX_i2 c2, Nat.le_trans w1 hn, rfl, rfl⟩, g1, Nat.zero_le _, Nat.zero_le _⟩
  rw [if_neg c2]
  by_cases c3 : kA t n s.1 = 12
  · rw [if_pos c3]
    intro _
    exact ⟨Nat.le_refl _, h4, Nat.le_refl _, ok_5.mpr ⟨Nat.le_trans w1 hn, rfl, rfl⟩, g1, Nat.zero_le _, Nat.zero_le _⟩
  rw [if_neg c3]
  by_cases c4 : kA t n s.1 = 13
  · rw [if_pos c4]; exact GP_pr hn hE (Or.inl rfl) s
  rw [if_neg c4]
  by_cases c5 : kA t n s.1 = 14
  · rw [if_pos c5]; exact GP_pr hn hE (Or.inr rfl) s
  rw [if_neg c5]
  by_cases c6 : kA t n s.1 = 38
  · rw [if_pos c6]
    intro h
    obtain ⟨h2, k2, e2⟩ := eK_inv h
    exact ⟨Nat.le_refl _, h4, Nat.le_refl _, ok_4.mpr ⟨nm_of k2, Nat.le_trans w1 hn, rfl, rfl⟩, g1, Nat.zero_le _, Nat.zero_le _⟩
  rw [if_neg c6]
  by_cases c7 : kA t n s.1 = 40
  · rw [if_pos c7]
    intro h
    obtain ⟨h2, -, e2⟩ := eK_inv h
    obtain ⟨a1, a2, a3, a4, a5, a6, a7, a8⟩ := hE (nxt s) h2
    have a2' : s.2.2 < (E (nxt s)).1.2.2 := a2
    have a4' : s.2.2 + sz (E (nxt s)).2 ≤ (E (nxt s)).1.2.2 := a4
    refine ⟨?_, a3, ?_, a5, (by show hR (E (nxt s)).2 ≤ _; omega), a7, a8⟩
    · show s.2.2 ≤ (E (nxt s)).1.2.2
      omega
    · show s.2.2 + sz (E (nxt s)).2 ≤ (E (nxt s)).1.2.2 + 1
      omega
  rw [if_neg c7]
  intro h
  cases h
theorem pNg_le : ∀ (f i m : Nat), m ≤ (pNg t n f i m).2.2 ∧ (pNg t n f i m).2.2 ≤ m + f ∧ ((pNg t n f i m).2.1 = none → (pNg t n f i m).2.2 < m + f)
  | 0, i, m => ⟨Nat.le_refl _, Nat.le_refl _, fun h => by cases h⟩
  | f + 1, i, m => by
    rw [pNg]
    by_cases c : kA t n i = 45
    · rw [if_pos c]
      obtain ⟨a1, a2, a3⟩ := pNg_le f (i + 1) (m + 1)
      exact ⟨by omega, by omega, fun h => by have := a3 h; omega⟩
    · rw [if_neg c]
      exact ⟨Nat.le_refl _, by show m ≤ m + (f + 1); omega, fun _ => by show m < m + (f + 1); omega⟩
theorem Gd_at (hn : n ≤ 4000) (hE : ∀ s, Gd t n (6 * g) g s (E s)) (s : PS) (h0 : s.2.1 = none) : Gd t n (6 * g + 3) g s (pAt t n E s) := by
  obtain ⟨m1, m2, m3⟩ := pNg_le (t := t) (n := n) (400 - s.2.2) s.1 0
  have w1 := aA_le (t := t) (n := n) (pNg t n (400 - s.2.2) s.1 0).1
  unfold pAt
  generalize pNg t n (400 - s.2.2) s.1 0 = r at m1 m2 m3 w1 ⊢
  simp only
  by_cases c : r.2.1 = none
  · rw [if_pos c]
    have m4 := m3 c
    intro h
    obtain ⟨a1, a2, a3, a4, a5, a6, a7⟩ := GP_pl hn hE (r.1, r.2.1, s.2.2 + r.2.2 + 1) (by show s.2.2 + r.2.2 + 1 ≤ 400; omega) h
    generalize pPl t n E (r.1, r.2.1, s.2.2 + r.2.2 + 1) = q at a1 a2 a3 a4 a5 a6 a7 ⊢
    have a1' : s.2.2 + r.2.2 + 1 ≤ q.1.2.2 := a1
    have a3' : s.2.2 + r.2.2 + 1 + sz q.2 ≤ q.1.2.2 + 1 := a3
    by_cases c0 : r.2.2 = 0
    · rw [if_pos c0]
      exact ⟨h0, by show s.2.2 < q.1.2.2; omega, a2, by show s.2.2 + sz q.2 ≤ q.1.2.2; omega, a4, a5, a6, a7⟩
    · rw [if_neg c0]
      refine ⟨h0, by show s.2.2 < q.1.2.2; omega, a2, ?_, ?_, a5, ?_, ?_⟩
      · show s.2.2 + (r.2.2 + sz q.2) ≤ q.1.2.2
        omega
      · exact ok_1.mpr ⟨by omega, by omega, Nat.le_trans w1 hn, a4, rfl⟩
      · show max (nD q.2) 0 ≤ 2 * g
        omega
      · show max (pD q.2) 0 ≤ g
        omega
  · rw [if_neg c]
    intro h
    exact absurd h c
theorem lvl_op {c : Nat} {l : Int32} (h : lvl c = l) (hl : l = 0 ∨ l = 1 ∨ l = 2) : c ∈ [42, 43, 45, 47, 37, 60, 128] := by
  subst h
  unfold lvl at hl
  by_cases c1 : c = 37 ∨ c = 42 ∨ c = 47
  · rcases c1 with rfl | rfl | rfl <;> decide
  rw [if_neg c1] at hl
  by_cases c2 : c = 43 ∨ c = 45
  · rcases c2 with rfl | rfl <;> decide
  rw [if_neg c2] at hl
  by_cases c3 : c = 60 ∨ c = 128
  · rcases c3 with rfl | rfl <;> decide
  rw [if_neg c3] at hl
  exact absurd hl (by decide)
theorem Gd_L (hn : n ≤ 4000) {k : Nat} {P : PS → PS × Tr} {lev : Int32} (hl : lev = 0 ∨ lev = 1 ∨ lev = 2) (hP : ∀ s, s.2.1 = none → Gd t n k g s (P s)) (s0 : PS) (h0 : s0.2.1 = none) {wh : Nat} (hwh : wh ≤ 4000) : ∀ (f : Nat) (b : Bool) (s : PS) (T : Tr), Gd t n (k + 1) g s0 (s, T) → (b = false → isC T) → Gd t n (k + 1) g s0 (pL t n lev P wh f b s T) := by
  intro f
  induction f with
  | zero => intro b s T h _; exact h
  | succ f ih =>
    intro b s T h hb
    have w1 := aA_le (t := t) (n := n) (s.1 + 1)
    rw [pL]
    by_cases c : s.2.1 = none ∧ lvl (oA t n s.1) = lev
    · rw [if_pos c]
      refine ih false _ _ (fun e => ?_) (fun _ => ?_)
      · obtain ⟨a1, a2, a3, a4, a5, a6, a7, a8⟩ := hP (nxt s) rfl e
        obtain ⟨b1, b2, b3, b4, b5, b6, b7, b8⟩ := h c.1
        generalize P (nxt s) = q at a1 a2 a3 a4 a5 a6 a7 a8 ⊢
        have a2' : s.2.2 < q.1.2.2 := a2
        have a4' : s.2.2 + sz q.2 ≤ q.1.2.2 := a4
        have b2' : s0.2.2 < s.2.2 := b2
        have b4' : s0.2.2 + sz T ≤ s.2.2 := b4
        have b6' : hR T ≤ k + 1 := b6
        have b7' : nD T ≤ 2 * g := b7
        have b8' : pD T ≤ g := b8
        have ho := lvl_op c.2 hl
        cases b with
        | true =>
          refine ⟨h0, by show s0.2.2 < q.1.2.2; omega, a3, ?_, ok_11.mpr ⟨ho, hwh, Nat.le_trans w1 hn, b5, a5⟩, ?_, ?_, ?_⟩
          · show s0.2.2 + (sz T + sz q.2) ≤ q.1.2.2
            omega
          · show max (hR T) (1 + hR q.2) ≤ k + 1
            omega
          · show max (nD T) (nD q.2) ≤ 2 * g
            omega
          · show max (pD T) (pD q.2) ≤ g
            omega
        | false =>
          refine ⟨h0, by show s0.2.2 < q.1.2.2; omega, a3, ?_, ok_12.mpr ⟨ho, hwh, Nat.le_trans w1 hn, b5, a5, hb rfl⟩, ?_, ?_, ?_⟩
          · show s0.2.2 + (sz T + sz q.2) ≤ q.1.2.2
            omega
          · show max (hR T) (1 + hR q.2) ≤ k + 1
            omega
          · show max (nD T) (nD q.2) ≤ 2 * g
            omega
          · show max (pD T) (pD q.2) ≤ g
            omega
      · cases b with
        | true => exact Or.inl rfl
        | false => exact Or.inr rfl
    · rw [if_neg c]
      exact h
theorem Gd_2 (hn : n ≤ 4000) (hE : ∀ s, Gd t n (6 * g) g s (E s)) (s : PS) (h0 : s.2.1 = none) : Gd t n (6 * g + 4) g s (pP2 t n E s) :=
  Gd_L (k := 6 * g + 3) hn (Or.inr (Or.inr rfl)) (fun s h => Gd_at hn hE s h) s h0 (Nat.le_trans (aA_le _) hn) _ _ _ _ ((Gd_at hn hE s h0).up (by omega) (Nat.le_refl _)) (fun z => by cases z)
theorem Gd_1 (hn : n ≤ 4000) (hE : ∀ s, Gd t n (6 * g) g s (E s)) (s : PS) (h0 : s.2.1 = none) : Gd t n (6 * g + 5) g s (pP1 t n E s) :=
  Gd_L (k := 6 * g + 4) hn (Or.inr (Or.inl rfl)) (fun s h => Gd_2 hn hE s h) s h0 (Nat.le_trans (aA_le _) hn) _ _ _ _ ((Gd_2 hn hE s h0).up (by omega) (Nat.le_refl _)) (fun z => by cases z)
theorem Gd_0 (hn : n ≤ 4000) (hE : ∀ s, Gd t n (6 * g) g s (E s)) (s : PS) (h0 : s.2.1 = none) : Gd t n (6 * g + 6) g s (pP0 t n E s) :=
  Gd_L (k := 6 * g + 5) hn (Or.inl rfl) (fun s h => Gd_1 hn hE s h) s h0 (Nat.le_trans (aA_le _) hn) _ _ _ _ ((Gd_1 hn hE s h0).up (by omega) (Nat.le_refl _)) (fun z => by cases z)
theorem Gd_le (_hn : n ≤ 4000) (hE : ∀ s, Gd t n (6 * g) g s (E s)) (s : PS) (h0 : s.2.1 = none) : Gd t n (6 * g + 6) (g + 1) s (pLe t n E s) := by
  intro h
  unfold pLe at h ⊢
  simp only at h ⊢
  obtain ⟨a1, a2, a3, a4, a5, a6, a7, a8⟩ := hE _ h
  obtain ⟨h2, -, e2⟩ := eK_inv a1
  obtain ⟨b1, b2, b3, b4, b5, b6, b7, b8⟩ := hE _ h2
  obtain ⟨h3, -, e3⟩ := eK_inv b1
  obtain ⟨-, k4, -⟩ := eK_inv h3
  have b2' : s.2.2 < (E (eK t n 61 (eK t n 1 (nxt s)))).1.2.2 := b2
  have b4' : s.2.2 + sz (E (eK t n 61 (eK t n 1 (nxt s)))).2 ≤ (E (eK t n 61 (eK t n 1 (nxt s)))).1.2.2 := b4
  rw [eK_a] at a2 a4
  generalize E (eK t n 61 (eK t n 1 (nxt s))) = r1 at a1 a2 a3 a4 a5 a6 a7 a8 h2 e2 b2' b3 b4' b5 b6 b7 b8 ⊢
  generalize E (eK t n 6 r1.1) = r2 at a2 a3 a4 a5 a6 a7 a8 ⊢
  refine ⟨h0, by show s.2.2 < r2.1.2.2; omega, a3, ?_, ok_8.mpr ⟨nm_of k4, b5, a5⟩, ?_, ?_, ?_⟩
  · show s.2.2 + (sz r1.2 + sz r2.2) ≤ r2.1.2.2
    omega
  · show max (hR r1.2) (1 + hR r2.2) ≤ _
    omega
  · show max (nD r1.2) (1 + nD r2.2) ≤ _
    omega
  · show max (pD r1.2) (pD r2.2) ≤ _
    omega
theorem Gd_if (hn : n ≤ 4000) (hE : ∀ s, Gd t n (6 * g) g s (E s)) (s : PS) (h0 : s.2.1 = none) : Gd t n (6 * g + 6) (g + 1) s (pIf t n E s) := by
  intro h
  have w1 := aA_le (t := t) (n := n) (s.1 + 1)
  unfold pIf at h ⊢
  simp only at h ⊢
  obtain ⟨a1, a2, a3, a4, a5, a6, a7, a8⟩ := hE _ h
  obtain ⟨h2, -, -⟩ := eK_inv a1
  obtain ⟨b1, b2, b3, b4, b5, b6, b7, b8⟩ := hE _ h2
  obtain ⟨h3, -, -⟩ := eK_inv b1
  obtain ⟨c1, c2, c3, c4, c5, c6, c7, c8⟩ := hE _ h3
  rw [eK_a] at a2 a4 b2 b4
  have c2' : s.2.2 < (E (nxt s)).1.2.2 := c2
  have c4' : s.2.2 + sz (E (nxt s)).2 ≤ (E (nxt s)).1.2.2 := c4
  generalize E (nxt s) = r1 at *
  generalize E (eK t n 8 r1.1) = r2 at *
  have w2 := aA_le (t := t) (n := n) (eK t n 9 r2.1).1
  generalize E (eK t n 9 r2.1) = r3 at *
  refine ⟨h0, by show s.2.2 < r3.1.2.2; omega, a3, ?_, ok_9.mpr ⟨Nat.le_trans w1 hn, Nat.le_trans w2 hn, c5, ok_20.mpr ⟨rfl, b5, a5⟩⟩, ?_, ?_, ?_⟩
  · show s.2.2 + (sz r1.2 + (sz r2.2 + sz r3.2)) ≤ r3.1.2.2
    omega
  · show max (hR r1.2) (max (hR r2.2) (hR r3.2)) ≤ _
    omega
  · show max (nD r1.2) (max (nD r2.2) (nD r3.2)) ≤ _
    omega
  · show max (pD r1.2) (max (pD r2.2) (1 + pD r3.2)) ≤ _
    omega
theorem Gd_ma (hn : n ≤ 4000) (hE : ∀ s, Gd t n (6 * g) g s (E s)) (s : PS) (h0 : s.2.1 = none) : Gd t n (6 * g + 6) (g + 1) s (pMa t n E s) := by
  intro h
  have w1 := aA_le (t := t) (n := n) (s.1 + 1)
  unfold pMa at h ⊢
  simp only at h ⊢
  obtain ⟨a1, a2, a3, a4, a5, a6, a7, a8⟩ := hE _ h
  obtain ⟨h2, -, -⟩ := eK_inv a1
  obtain ⟨h3, k3, e3⟩ := eK_inv h2
  obtain ⟨h4, -, e4⟩ := eK_inv h3
  obtain ⟨h5, k5, e5⟩ := eK_inv h4
  obtain ⟨h6, -, e6⟩ := eK_inv h5
  obtain ⟨b1, b2, b3, b4, b5, b6, b7, b8⟩ := hE _ h6
  obtain ⟨h7, -, -⟩ := eK_inv b1
  obtain ⟨h8, -, -⟩ := eK_inv h7
  obtain ⟨h9, -, -⟩ := eK_inv h8
  obtain ⟨c1, c2, c3, c4, c5, c6, c7, c8⟩ := hE _ h9
  rw [eK_a, eK_a, eK_a, eK_a, eK_a] at a2 a4
  rw [eK_a, eK_a, eK_a] at b2 b4
  have c2' : s.2.2 < (E (nxt s)).1.2.2 := c2
  have c4' : s.2.2 + sz (E (nxt s)).2 ≤ (E (nxt s)).1.2.2 := c4
  generalize E (nxt s) = r1 at *
  generalize E (eK t n 129 (eK t n 12 (eK t n 11 r1.1))) = r2 at *
  generalize eK t n 124 r2.1 = s3 at *
  generalize eK t n 44 (eK t n 1 s3) = s4 at *
  generalize eK t n 129 (eK t n 1 s4) = s5 at *
  have w2 := aA_le (t := t) (n := n) s5.1
  generalize E s5 = r3 at *
  refine ⟨h0, ?_, a3, ?_, ok_10.mpr ⟨Nat.le_trans w1 hn, Nat.le_trans w2 hn, c5, ok_22.mpr ⟨rfl, nm_of k5, nm_of k3, b5, a5⟩⟩, ?_, ?_, ?_⟩
  · show s.2.2 < r3.1.2.2
    omega
  · show s.2.2 + (sz r1.2 + (sz r2.2 + sz r3.2)) ≤ r3.1.2.2
    omega
  · show max (hR r1.2) (max (hR r2.2) (2 + hR r3.2)) ≤ _
    omega
  · show max (nD r1.2) (max (nD r2.2) (2 + nD r3.2)) ≤ _
    omega
  · show max (pD r1.2) (max (pD r2.2) (1 + pD r3.2)) ≤ _
    omega
end GE
theorem Gd_E (hn : n ≤ 4000) : ∀ (g : Nat) (s : PS), Gd t n (6 * g) g s (pE t n g s) := by
  intro g
  induction g with
  | zero =>
    intro s
    rw [pE]
    by_cases c : s.2.1 = none
    · rw [if_pos c]; intro h; cases h
    · rw [if_neg c]; intro h; exact absurd h c
  | succ g ih =>
    intro s
    rw [pE]
    by_cases c : s.2.1 = none
    · rw [if_pos c]
      by_cases c1 : kA t n s.1 = 5
      · rw [if_pos c1]; exact Gd_le hn ih s c
      rw [if_neg c1]
      by_cases c2 : kA t n s.1 = 7
      · rw [if_pos c2]; exact Gd_if hn ih s c
      rw [if_neg c2]
      by_cases c3 : kA t n s.1 = 10
      · rw [if_pos c3]; exact Gd_ma hn ih s c
      rw [if_neg c3]
      exact (Gd_0 hn ih s c).up (by omega) (by omega)
    · rw [if_neg c]; intro h; exact absurd h c
end GD
