/-! A PROGRAM is judged: TYPES, the least fault -/
/-- what stands with a NAME, the innermost first -/
def lk : List (List Nat × Nat) → List Nat → Option Nat
  | [], _ => none
  | q :: e, x => if q.1 = x then some q.2 else lk e x
/-- which FUNCTION has that NAME, the first one -/
def fnI (t : Nat → UInt8) : List FD → List Nat → Nat → Option Nat
  | [], _, _ => none
  | q :: D, x, i => if nmT t q.1.1 q.1.2 = x then some i else fnI t D x (i + 1)
/-- what a FUNCTION gives, how many ARGUMENTS it has, of which TYPE -/
def gvD (D : List FD) (f : Nat) : Nat := match D[f]? with
  | some q => q.2.2.1
  | none => 0
def tkD (D : List FD) (f : Nat) : Nat := match D[f]? with
  | some q => q.2.1.length
  | none => 0
def tyD (D : List FD) (f k : Nat) : Nat := match D[f]? with
  | some q => (match q.2.1[k]? with
    | some a => a.2.2
    | none => 0)
  | none => 0
/-- FUNCTION f is an act -/
abbrev acD (D : List FD) (f : Nat) : Prop := tkD D f = 1 ∧ tyD D f 0 = 1 ∧ gvD D f = 1
def onI : Option Nat → Int32
  | some f => nI f
  | none => -1
theorem onI_s {f : Nat} : onI (some f) = nI f := rfl
theorem onI_n : onI none = -1 := rfl
def gvO (D : List FD) : Option Nat → Nat
  | some f => gvD D f
  | none => 0
def tkO (D : List FD) (a c : Nat) : Option Nat → Option Nat
  | some f => if tkD D f = c then none else some a
  | none => some a
def acO (D : List FD) (a c : Nat) : Option Nat → Option Nat
  | some f => if acD D f then none else some c
  | none => some a
def tyO (D : List FD) (k : Nat) : Option Nat → Nat
  | some f => tyD D f k
  | none => 0
def m2 : Option Nat → Option Nat → Option Nat
  | none, b => b
  | some a, none => some a
  | some a, some b => some (min a b)
theorem m2_n (a : Option Nat) : m2 a none = a := by cases a <;> rfl
theorem m2_c (a b : Option Nat) : m2 a b = m2 b a := by
  cases a with
  | none => exact (m2_n b).symm
  | some a =>
    cases b with
    | none => rfl
    | some b => exact congrArg some (Nat.min_comm a b)
theorem m2_a (a b c : Option Nat) : m2 (m2 a b) c = m2 a (m2 b c) := by
  cases a with
  | none => rfl
  | some a =>
    cases b with
    | none => rfl
    | some b =>
      cases c with
      | none => rfl
      | some c => exact congrArg some (Nat.min_assoc a b c)
theorem m2_i (a : Option Nat) : m2 a a = a := by
  cases a with
  | none => rfl
  | some a => exact congrArg some (Nat.min_self a)
theorem m2_none {a b : Option Nat} : m2 a b = none ↔ a = none ∧ b = none := by
  cases a with
  | none => exact ⟨fun h => ⟨rfl, h⟩, fun h => h.2⟩
  | some a =>
    cases b with
    | none => exact ⟨(fun h => by cases h), (fun h => by cases h.1)⟩
    | some b => exact ⟨(fun h => by cases h), (fun h => by cases h.1)⟩
/-- the fault where an E is not of the TYPE that must be there -/
def exQ (x y w : Nat) : Option Nat := if x ≠ 0 ∧ y ≠ 0 ∧ x ≠ y then some w else none
section CK
variable (t : Nat → UInt8) (D : List FD)
def ckT : Tr → List (List Nat × Nat) → Nat
  | .leaf, _ => 0
  | .inner k (a, b, _, _) _ l r, e =>
    if k = 2 then (lk e (nmT t a b)).getD 0
    else if k = 3 then gvO D (fnI t D (nmT t a b) 0)
    else if k = 4 then 3
    else if k = 5 ∨ k = 6 then 2
    else if k = 8 then ckT r ((nmT t a b, ckT l e) :: e)
    else if k = 9 ∨ k = 10 then ckT r e
    else if k = 20 ∨ k = 22 then ckT l e
    else 1
/-- the TYPE of the second part of if, match -/
def ckU : Tr → List (List Nat × Nat) → Nat
  | .leaf, _ => 0
  | .inner k (a, b, c, d) _ _ r, e => if k = 22 then ckT t D r ((nmT t c d, 2) :: (nmT t a b, 1) :: e) else ckT t D r e
/-- the TYPE that E k of a CALL must have -/
def atD (x : List Nat) (k : Nat) : Nat := tyO D k (fnI t D x 0)
def ckF : Tr → List (List Nat × Nat) → Option Nat
  | .leaf, _ => none
  | .inner k (a, b, c, d) _ l r, e =>
    if k = 1 then m2 (ckF l e) (exQ (ckT t D l e) 1 b)
    else if k = 2 then (if lk e (nmT t a b) = none then some a else none)
    else if k = 3 then m2 (tkO D a c (fnI t D (nmT t a b) 0)) (ckF l e)
    else if k = 4 then acO D a c (fnI t D (nmT t a b) 0)
    else if k = 6 then m2 (m2 (ckF l e) (exQ (ckT t D l e) 1 a)) (m2 (ckF r e) (exQ (ckT t D r e) 2 b))
    else if k = 7 then m2 (m2 (ckF l e) (exQ (ckT t D l e) 3 a)) (m2 (ckF r e) (exQ (ckT t D r e) 1 b))
    else if k = 8 then m2 (ckF l e) (ckF r ((nmT t a b, ckT t D l e) :: e))
    else if k = 9 then m2 (m2 (ckF l e) (exQ (ckT t D l e) 1 a)) (m2 (ckF r e) (exQ (ckU t D r e) (ckT t D r e) b))
    else if k = 10 then m2 (m2 (ckF l e) (exQ (ckT t D l e) 2 a)) (m2 (ckF r e) (exQ (ckU t D r e) (ckT t D r e) b))
    else if k = 11 ∨ k = 12 then m2 (m2 (ckF l e) (exQ (ckT t D l e) 1 b)) (m2 (ckF r e) (exQ (ckT t D r e) 1 c))
    else if k = 20 then m2 (ckF l e) (ckF r e)
    else if k = 21 then m2 (m2 (ckF l e) (exQ (ckT t D l e) (atD t D (nmT t a b) d) c)) (ckF r e)
    else if k = 22 then m2 (ckF l e) (ckF r ((nmT t c d, 2) :: (nmT t a b, 1) :: e))
    else none
end CK
section CKE
variable {t : Nat → UInt8} {D : List FD} {a b c d : Nat} {l r : Tr} {e : List (List Nat × Nat)}
theorem cT_0 : ckT t D (nd 0 a b c d l r) e = 1 := rfl
theorem cT_1 : ckT t D (nd 1 a b c d l r) e = 1 := rfl
theorem cT_2 : ckT t D (nd 2 a b c d l r) e = (lk e (nmT t a b)).getD 0 := rfl
theorem cT_3 : ckT t D (nd 3 a b c d l r) e = gvO D (fnI t D (nmT t a b) 0) := rfl
theorem cT_4 : ckT t D (nd 4 a b c d l r) e = 3 := rfl
theorem cT_5 : ckT t D (nd 5 a b c d l r) e = 2 := rfl
theorem cT_6 : ckT t D (nd 6 a b c d l r) e = 2 := rfl
theorem cT_7 : ckT t D (nd 7 a b c d l r) e = 1 := rfl
theorem cT_8 : ckT t D (nd 8 a b c d l r) e = ckT t D r ((nmT t a b, ckT t D l e) :: e) := rfl
theorem cT_9 : ckT t D (nd 9 a b c d l r) e = ckT t D r e := rfl
theorem cT_10 : ckT t D (nd 10 a b c d l r) e = ckT t D r e := rfl
theorem cT_11 : ckT t D (nd 11 a b c d l r) e = 1 := rfl
theorem cT_12 : ckT t D (nd 12 a b c d l r) e = 1 := rfl
theorem cT_20 : ckT t D (nd 20 a b c d l r) e = ckT t D l e := rfl
theorem cT_22 : ckT t D (nd 22 a b c d l r) e = ckT t D l e := rfl
theorem cF_0 : ckF t D (nd 0 a b c d l r) e = none := rfl
theorem cF_1 : ckF t D (nd 1 a b c d l r) e = m2 (ckF t D l e) (exQ (ckT t D l e) 1 b) := rfl
theorem cF_2 : ckF t D (nd 2 a b c d l r) e = (if lk e (nmT t a b) = none then some a else none) := rfl
theorem cF_3 : ckF t D (nd 3 a b c d l r) e = m2 (tkO D a c (fnI t D (nmT t a b) 0)) (ckF t D l e) := rfl
theorem cF_4 : ckF t D (nd 4 a b c d l r) e = acO D a c (fnI t D (nmT t a b) 0) := rfl
theorem cF_5 : ckF t D (nd 5 a b c d l r) e = none := rfl
theorem cF_6 : ckF t D (nd 6 a b c d l r) e = m2 (m2 (ckF t D l e) (exQ (ckT t D l e) 1 a)) (m2 (ckF t D r e) (exQ (ckT t D r e) 2 b)) := rfl
theorem cF_7 : ckF t D (nd 7 a b c d l r) e = m2 (m2 (ckF t D l e) (exQ (ckT t D l e) 3 a)) (m2 (ckF t D r e) (exQ (ckT t D r e) 1 b)) := rfl
theorem cF_8 : ckF t D (nd 8 a b c d l r) e = m2 (ckF t D l e) (ckF t D r ((nmT t a b, ckT t D l e) :: e)) := rfl
theorem cF_9 : ckF t D (nd 9 a b c d l r) e = m2 (m2 (ckF t D l e) (exQ (ckT t D l e) 1 a)) (m2 (ckF t D r e) (exQ (ckU t D r e) (ckT t D r e) b)) := rfl
theorem cF_10 : ckF t D (nd 10 a b c d l r) e = m2 (m2 (ckF t D l e) (exQ (ckT t D l e) 2 a)) (m2 (ckF t D r e) (exQ (ckU t D r e) (ckT t D r e) b)) := rfl
theorem cF_11 : ckF t D (nd 11 a b c d l r) e = m2 (m2 (ckF t D l e) (exQ (ckT t D l e) 1 b)) (m2 (ckF t D r e) (exQ (ckT t D r e) 1 c)) := rfl
theorem cF_12 : ckF t D (nd 12 a b c d l r) e = m2 (m2 (ckF t D l e) (exQ (ckT t D l e) 1 b)) (m2 (ckF t D r e) (exQ (ckT t D r e) 1 c)) := rfl
theorem cF_20 : ckF t D (nd 20 a b c d l r) e = m2 (ckF t D l e) (ckF t D r e) := rfl
theorem cF_21 : ckF t D (nd 21 a b c d l r) e = m2 (m2 (ckF t D l e) (exQ (ckT t D l e) (atD t D (nmT t a b) d) c)) (ckF t D r e) := rfl
theorem cF_22 : ckF t D (nd 22 a b c d l r) e = m2 (ckF t D l e) (ckF t D r ((nmT t c d, 2) :: (nmT t a b, 1) :: e)) := rfl
theorem cU_20 : ckU t D (nd 20 a b c d l r) e = ckT t D r e := rfl
theorem cU_22 : ckU t D (nd 22 a b c d l r) e = ckT t D r ((nmT t c d, 2) :: (nmT t a b, 1) :: e) := rfl
end CKE
section CKL
variable {t : Nat → UInt8} {D : List FD}
theorem lk_mem {x : List Nat} {v : Nat} : ∀ {e : List (List Nat × Nat)}, lk e x = some v → ∃ q ∈ e, q.2 = v
  | [], h => by cases h
  | q :: e, h => by
    rw [lk] at h
    by_cases c : q.1 = x
    · rw [if_pos c] at h
      exact ⟨q, List.mem_cons_self, Option.some.inj h⟩
    · rw [if_neg c] at h
      obtain ⟨r, hr, hv⟩ := lk_mem h
      exact ⟨r, List.mem_cons_of_mem _ hr, hv⟩
theorem gvD_le (hD : ∀ q ∈ D, q.2.2.1 ≤ 3) (f : Nat) : gvD D f ≤ 3 := by
  unfold gvD
  cases h : D[f]? with
  | none => exact Nat.zero_le 3
  | some q => exact hD q (List.mem_of_getElem? h)
/-- TYPES are four at most -/
theorem ckT_le (hD : ∀ q ∈ D, q.2.2.1 ≤ 3) : ∀ (T : Tr) (e : List (List Nat × Nat)), (∀ q ∈ e, q.2 ≤ 3) → ckT t D T e ≤ 3 := by
  refine tr_ind (fun e _ => Nat.zero_le 3) (fun k a b c d l r hl hr _ e he => ?_)
  unfold nd ckT
  by_cases c1 : k = 2
  · rw [if_pos c1]
    cases h : lk e (nmT t a b) with
    | none => exact Nat.zero_le 3
    | some v =>
      obtain ⟨q, hq, hv⟩ := lk_mem h
      show v ≤ 3
      rw [← hv]
      exact he q hq
  rw [if_neg c1]
  by_cases c1 : k = 3
  · rw [if_pos c1]
    cases h : fnI t D (nmT t a b) 0 with
    | none => exact Nat.zero_le 3
    | some v => exact gvD_le hD v
  rw [if_neg c1]
  by_cases c1 : k = 4
  · rw [if_pos c1]; exact Nat.le_refl 3
  rw [if_neg c1]
  by_cases c1 : k = 5 ∨ k = 6
  · rw [if_pos c1]; decide
  rw [if_neg c1]
  by_cases c1 : k = 8
  · rw [if_pos c1]
    refine hr _ fun q hq => ?_
    rcases List.mem_cons.mp hq with rfl | hq
    · exact hl e he
    · exact he q hq
  rw [if_neg c1]
  by_cases c1 : k = 9 ∨ k = 10
  · rw [if_pos c1]; exact hr e he
  rw [if_neg c1]
  by_cases c1 : k = 20 ∨ k = 22
  · rw [if_pos c1]; exact hl e he
  rw [if_neg c1]
  decide
/-- where a NAME stands, from the outermost on -/
def plc : List (List Nat × Nat) → List Nat → Option Nat
  | [], _ => none
  | q :: e, x => if q.1 = x then some e.length else plc e x
theorem plc_lk {x : List Nat} : ∀ (e : List (List Nat × Nat)), (∀ i, plc e x = some i → i < e.length ∧ ∃ q, e.reverse[i]? = some q ∧ q.1 = x ∧ lk e x = some q.2) ∧ (plc e x = none ↔ lk e x = none)
  | [] => ⟨(fun i h => by cases h), ⟨fun _ => rfl, fun _ => rfl⟩⟩
  | q :: e => by
    obtain ⟨h1, h2⟩ := plc_lk (x := x) e
    rw [plc, lk]
    by_cases c : q.1 = x
    · rw [if_pos c, if_pos c]
      refine ⟨fun i h => ?_, ⟨(fun h => by cases h), (fun h => by cases h)⟩⟩
      have := Option.some.inj h
      subst this
      refine ⟨Nat.lt_succ_self _, q, ?_, c, rfl⟩
      rw [List.reverse_cons, List.getElem?_append_right (by rw [List.length_reverse]; exact Nat.le_refl _), List.length_reverse, Nat.sub_self]
      rfl
    · rw [if_neg c, if_neg c]
      refine ⟨fun i h => ?_, h2⟩
      obtain ⟨a1, r, a2, a3, a4⟩ := h1 i h
      refine ⟨Nat.lt_succ_of_lt a1, r, ?_, a3, a4⟩
      rw [List.reverse_cons, List.getElem?_append_left (by rw [List.length_reverse]; exact a1)]
      exact a2
theorem fnI_at {x : List Nat} : ∀ (D : List FD) (i f : Nat), fnI t D x i = some f → i ≤ f ∧ ∃ q, D[f - i]? = some q ∧ nmT t q.1.1 q.1.2 = x
  | [], i, f, h => by cases h
  | q :: D, i, f, h => by
    rw [fnI] at h
    by_cases c : nmT t q.1.1 q.1.2 = x
    · rw [if_pos c] at h
      have := Option.some.inj h
      subst this
      exact ⟨Nat.le_refl _, q, by rw [Nat.sub_self]; rfl, c⟩
    · rw [if_neg c] at h
      obtain ⟨a1, r, a2, a3⟩ := fnI_at D (i + 1) f h
      refine ⟨by omega, r, ?_, a3⟩
      rw [show f - i = (f - (i + 1)) + 1 by omega]
      exact a2
theorem fnI_lt {x : List Nat} {f : Nat} (h : fnI t D x 0 = some f) : f < D.length ∧ ∃ q, D[f]? = some q ∧ nmT t q.1.1 q.1.2 = x := by
  obtain ⟨-, q, hq, hx⟩ := fnI_at D 0 f h
  rw [Nat.sub_zero] at hq
  exact ⟨(List.getElem?_eq_some_iff.mp hq).1, q, hq, hx⟩
/-- how deep judging goes -/
def dpt : Tr → Nat
  | .leaf => 0
  | .inner k (a, _, _, _) _ l r => if k = 1 then 2 * a + dpt l else if k = 3 then 2 + dpt l else if k = 21 then max (2 + dpt l) (dpt r) else if k = 20 ∨ k = 22 then max (dpt l) (dpt r) else if 6 ≤ k then 2 + max (dpt l) (dpt r) else 0
end CKL
