/-! A RUN: values keep their TYPES -/
/-- a value of TYPE y, so many pairs there are -/
def vlO (D : List FD) (m y : Nat) (v : Int32) : Prop := y = 1 ∨ (y = 2 ∧ ∃ k, k ≤ m ∧ v = nI k) ∨ (y = 3 ∧ ∃ f, f < D.length ∧ acD D f ∧ v = nI f)
/-- NAMES around: TYPES, values -/
def enO (D : List FD) (m : Nat) : List (List Nat × Nat) → List (List Nat × Int32) → Prop
  | [], [] => True
  | q :: e, p :: ev => q.1 = p.1 ∧ vlO D m q.2 p.2 ∧ enO D m e ev
  | _, _ => False
def stO (s : rwS) : Prop := s.1.length ≤ 500 ∧ ∀ i q, s.1[i]? = some q → ∃ k, k ≤ i ∧ q.2 = nI k
def pO (P : Nat → List Int32 → Prop) (m : Nat) (r : rR) : Prop := stO r.1 ∧ m ≤ r.1.1.length ∧ ∀ vs, r.2 = .ok vs → P r.1.1.length vs
def v1P (D : List FD) (y m : Nat) (vs : List Int32) : Prop := ∃ v, vs = [v] ∧ vlO D m y v
def vsP (D : List FD) (f k c m : Nat) (vs : List Int32) : Prop := vs.length = c ∧ ∀ j v, vs[j]? = some v → vlO D m (tyD D f (k + j)) v
/-- what C promises -/
def cO (D : List FD) (C : Nat → List Int32 → rwS → rR) : Prop := ∀ f v s, f < D.length → vsP D f 0 (tkD D f) s.1.length v → stO s → pO (v1P D (gvD D f)) s.1.length (C f v s)
section TY
variable {t : Nat → UInt8} {n : Nat} {D : List FD} {C : Nat → List Int32 → rwS → rR}
theorem vlO.up {m m2 y : Nat} {v : Int32} (h : vlO D m y v) (hm : m ≤ m2) : vlO D m2 y v := by
  rcases h with h | ⟨h, k, hk, hv⟩ | h
  · exact Or.inl h
  · exact Or.inr (Or.inl ⟨h, k, Nat.le_trans hk hm, hv⟩)
  · exact Or.inr (Or.inr h)
theorem vlO.n0 {m y : Nat} {v : Int32} (h : vlO D m y v) : y ≠ 0 := by
  rcases h with h | ⟨h, -⟩ | ⟨h, -⟩ <;> omega
theorem enO.up {m m2 : Nat} (hm : m ≤ m2) : ∀ {e : List (List Nat × Nat)} {ev : List (List Nat × Int32)}, enO D m e ev → enO D m2 e ev
  | [], [], _ => trivial
  | _ :: _, _ :: _, h => ⟨h.1, h.2.1.up hm, enO.up hm h.2.2⟩
  | [], _ :: _, h => h
  | _ :: _, [], h => h
theorem enO.n0 {m : Nat} : ∀ {e : List (List Nat × Nat)} {ev : List (List Nat × Int32)}, enO D m e ev → ∀ q ∈ e, q.2 ≠ 0
  | [], _, _, q, hq => by cases hq
  | x :: e, [], h, q, hq => absurd h (fun z => z)
  | x :: e, p :: ev, h, q, hq => by
    rcases List.mem_cons.mp hq with rfl | hq
    · exact h.2.1.n0
    · exact enO.n0 h.2.2 q hq
theorem enO.lkup {m : Nat} {x : List Nat} : ∀ {e : List (List Nat × Nat)} {ev : List (List Nat × Int32)} {y : Nat}, enO D m e ev → lk e x = some y → vlO D m y (rL ev x)
  | [], _, y, _, h => by cases h
  | q :: e, [], y, h, _ => absurd h (fun z => z)
  | q :: e, p :: ev, y, h, hl => by
    rw [lk] at hl
    rw [rL, ← h.1]
    by_cases c : q.1 = x
    · rw [if_pos c] at hl ⊢
      cases hl
      exact h.2.1
    · rw [if_neg c] at hl ⊢
      exact enO.lkup h.2.2 hl
theorem exQ_n {x y w : Nat} (h : exQ x y w = none) (hx : x ≠ 0) (hy : y ≠ 0) : x = y := by
  unfold exQ at h
  by_cases c : x = y
  · exact c
  · rw [if_pos ⟨hx, hy, c⟩] at h
    cases h
/-- an E without fault has a TYPE -/
theorem ckT_n0 (hD : ∀ q ∈ D, 1 ≤ q.2.2.1) : ∀ (T : Tr) (m a z k : Nat) (e : List (List Nat × Nat)), okT t n T m a z k → ckF t D T e = none → (∀ q ∈ e, q.2 ≠ 0) → (m = 0 → ckT t D T e ≠ 0) ∧ (m = 2 ∨ m = 3 → ckT t D T e ≠ 0 ∧ ckU t D T e ≠ 0) := by
  refine tr_ind (fun m a z k e h _ _ => ?_) (fun kd a b c d l r hl hr _ m a0 z0 k0 e h hF he => ?_)
  · have : m = 1 := h
    subst this
    exact ⟨fun z => by omega, fun z => by omega⟩
  · refine ⟨fun em => ?_, fun em => ?_⟩
    · subst em
      obtain ⟨k2, _, _, _, _, _, _, e2, hk⟩ := ok_k h
      have ek : kd = k2 := by cases e2; rfl
      have hk' : kd ≤ 12 := by omega
      rcases (show kd = 0 ∨ kd = 1 ∨ kd = 2 ∨ kd = 3 ∨ kd = 4 ∨ kd = 5 ∨ kd = 6 ∨ kd = 7 ∨ kd = 8 ∨ kd = 9 ∨ kd = 10 ∨ kd = 11 ∨ kd = 12 by omega) with rfl | rfl | rfl | rfl | rfl | rfl | rfl | rfl | rfl | rfl | rfl | rfl | rfl
      · rw [cT_0]; decide
      · rw [cT_1]; decide
      · rw [cF_2] at hF
        rw [cT_2]
        cases hx : lk e (nmT t a b) with
        | none => rw [hx, if_pos rfl] at hF; cases hF
        | some v =>
          obtain ⟨q, hq, hv⟩ := lk_mem hx
          show v ≠ 0
          rw [← hv]
          exact he q hq
      · rw [cF_3] at hF
        rw [cT_3]
        cases hx : fnI t D (nmT t a b) 0 with
        | none => rw [hx] at hF; exact absurd (m2_none.mp hF).1 (by unfold tkO; simp)
        | some f =>
          obtain ⟨-, q, hq, -⟩ := fnI_lt hx
          show gvD D f ≠ 0
          have := hD q (List.mem_of_getElem? hq)
          unfold gvD
          rw [hq]
          show q.2.2.1 ≠ 0
          omega
      · rw [cT_4]; decide
      · rw [cT_5]; decide
      · rw [cT_6]; decide
      · rw [cT_7]; decide
      · obtain ⟨o1, o2, o3⟩ := ok_8.mp h
        rw [cF_8] at hF
        obtain ⟨f1, f2⟩ := m2_none.mp hF
        rw [cT_8]
        refine (hr _ _ _ _ _ o3 f2 fun q hq => ?_).1 rfl
        rcases List.mem_cons.mp hq with rfl | hq
        · exact (hl _ _ _ _ _ o2 f1 he).1 rfl
        · exact he q hq
      · obtain ⟨o1, o2, o3, o4⟩ := ok_9.mp h
        rw [cF_9] at hF
        obtain ⟨f1, f2⟩ := m2_none.mp hF
        obtain ⟨f3, f4⟩ := m2_none.mp f2
        rw [cT_9]
        exact ((hr _ _ _ _ _ o4 f3 he).2 (Or.inl rfl)).1
      · obtain ⟨o1, o2, o3, o4⟩ := ok_10.mp h
        rw [cF_10] at hF
        obtain ⟨f1, f2⟩ := m2_none.mp hF
        obtain ⟨f3, f4⟩ := m2_none.mp f2
        rw [cT_10]
        exact ((hr _ _ _ _ _ o4 f3 he).2 (Or.inr rfl)).1
      · rw [cT_11]; decide
      · rw [cT_12]; decide
    · rcases em with rfl | rfl
      · obtain ⟨rfl, o3, o4⟩ := ok_20.mp h
        rw [cF_20] at hF
        obtain ⟨f1, f2⟩ := m2_none.mp hF
        rw [cT_20, cU_20]
        exact ⟨(hl _ _ _ _ _ o3 f1 he).1 rfl, (hr _ _ _ _ _ o4 f2 he).1 rfl⟩
      · obtain ⟨rfl, -, -, o3, o4⟩ := ok_22.mp h
        rw [cF_22] at hF
        obtain ⟨f1, f2⟩ := m2_none.mp hF
        rw [cT_22, cU_22]
        refine ⟨(hl _ _ _ _ _ o3 f1 he).1 rfl, (hr _ _ _ _ _ o4 f2 fun q hq => ?_).1 rfl⟩
        rcases List.mem_cons.mp hq with rfl | hq
        · show (2 : Nat) ≠ 0
          decide
        rcases List.mem_cons.mp hq with rfl | hq
        · show (1 : Nat) ≠ 0
          decide
        · exact he q hq
theorem pO.b {P P2 : Nat → List Int32 → Prop} {m : Nat} {r : rR} {k : rwS → List Int32 → rR} (h : pO P m r) (hk : ∀ s1 vs, stO s1 → m ≤ s1.1.length → P s1.1.length vs → pO P2 s1.1.length (k s1 vs)) : pO P2 m (rwB r k) := by
  obtain ⟨s1, x | vs⟩ := r
  · exact ⟨h.1, h.2.1, fun vs hv => by
      have hv' : (Except.error x : Except Nat (List Int32)) = .ok vs := hv
      cases hv'⟩
  · obtain ⟨g1, g2, g3⟩ := hk s1 vs h.1 h.2.1 (h.2.2 vs rfl)
    exact ⟨g1, Nat.le_trans h.2.1 g2, g3⟩
theorem pO.v {P : Nat → List Int32 → Prop} {m : Nat} {s : rwS} {vs : List Int32} (h : stO s) (hm : m ≤ s.1.length) (hv : P s.1.length vs) : pO P m (s, .ok vs) := ⟨h, hm, fun us hu => by
  have hu' : (Except.ok vs : Except Nat (List Int32)) = .ok us := hu
  cases hu'
  exact hv⟩
theorem pO.x {P : Nat → List Int32 → Prop} {m : Nat} {s : rwS} {x : Nat} (h : stO s) (hm : m ≤ s.1.length) : pO P m (s, .error x) := ⟨h, hm, fun us hu => by
  have hu' : (Except.error x : Except Nat (List Int32)) = .ok us := hu
  cases hu'⟩
theorem pO.o2 {a : Nat} {x y : Int32} {s : rwS} (h : stO s) : pO (v1P D 1) s.1.length (s, rO2 a x y) := by
  refine ⟨h, Nat.le_refl _, fun vs hv => ?_⟩
  have hv' : rO2 a x y = .ok vs := hv
  unfold rO2 at hv'
  have fin : ∀ u : Int32, (Except.ok [u] : Except Nat (List Int32)) = .ok vs → v1P D 1 s.1.length vs := fun u hu => by
    cases hu
    exact ⟨u, rfl, Or.inl rfl⟩
  repeat' split at hv'
  all_goals first
    | exact fin _ hv'
    | cases hv'
theorem pO.cons {x y : Int32} {s : rwS} (h : stO s) (hy : vlO D s.1.length 2 y) : pO (v1P D 2) s.1.length (rCons x y s) := by
  unfold rCons
  by_cases c : s.1.length < 500
  · rw [if_pos c]
    have l1 : (s.1 ++ [(x, y)]).length = s.1.length + 1 := by rw [List.length_append]; rfl
    refine ⟨⟨by show (s.1 ++ [(x, y)]).length ≤ 500; omega, fun i q hq => ?_⟩, by show s.1.length ≤ (s.1 ++ [(x, y)]).length; omega, fun vs hv => ?_⟩
    · have hq' : (s.1 ++ [(x, y)])[i]? = some q := hq
      rcases Nat.lt_or_ge i s.1.length with c2 | c2
      · rw [List.getElem?_append_left c2] at hq'
        exact h.2 i q hq'
      · have hi := (List.getElem?_eq_some_iff.mp hq').1
        have hi2 : i = s.1.length := by omega
        subst hi2
        rw [mid_a] at hq'
        cases hq'
        rcases hy with hy | ⟨-, k, hk, hv⟩ | ⟨hy, -⟩
        · omega
        · exact ⟨k, hk, hv⟩
        · omega
    · have hv' : (Except.ok [nI (s.1.length + 1)] : Except Nat (List Int32)) = .ok vs := hv
      cases hv'
      exact ⟨_, rfl, Or.inr (Or.inl ⟨rfl, s.1.length + 1, by show s.1.length + 1 ≤ (s.1 ++ [(x, y)]).length; omega, rfl⟩)⟩
  · rw [if_neg c]
    exact pO.x h (Nat.le_refl _)
theorem rPr_in {v : Int32} {s : rwS} {q : Int32 × Int32} (h : rPr v s = some q) : ∃ i, s.1[i]? = some q ∧ v.toNatClampNeg = i + 1 := by
  unfold rPr at h
  by_cases c : 0 < v
  · rw [if_pos c] at h
    refine ⟨_, h, ?_⟩
    have := Int32.lt_iff_toInt_lt.mp c
    have e0 : (0 : Int32).toInt = 0 := rfl
    unfold Int32.toNatClampNeg
    omega
  · rw [if_neg c] at h
    cases h
theorem rPr_ty {v : Int32} {s : rwS} {q : Int32 × Int32} (hs : stO s) (h : rPr v s = some q) : ∃ k, k ≤ s.1.length ∧ q.2 = nI k := by
  obtain ⟨i, hi, -⟩ := rPr_in h
  obtain ⟨k, hk, e⟩ := hs.2 i q hi
  exact ⟨k, by have := (List.getElem?_eq_some_iff.mp hi).1; omega, e⟩
end TY
