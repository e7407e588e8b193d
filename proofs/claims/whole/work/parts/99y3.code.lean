/-! the CODE of a tree -/
def nmT (t : Nat → UInt8) (a z : Nat) : List Nat := tw t a (a + z)
def wv (t : Nat → UInt8) (a z : Nat) : Int64 := wvT t a (a + z)
/-- V tells a NAME's value, F a FUNCTION's; from place p on, so high the RUN stands, where the NAMES around stand -/
def cg (t : Nat → UInt8) (V : Nat → Nat → List (List Nat × Nat) → Int64) (F : Nat → Nat → Int64) : Tr → Nat → Nat → List (List Nat × Nat) → List cdE
  | .leaf, _, _, _ => []
  | .inner k (a, b, c, d) _ l r, p, h, se =>
    if k = 0 then [(0, lN a, nI b, 0)]
    else if k = 1 then cg t V F l p h se ++ (14, 1, nI b, 0) :: (if a % 2 = 1 then [(7, 0, 0, 0)] else [])
    else if k = 2 then [(1, V a b se, nI a, 0)]
    else if k = 3 then cg t V F l p h se ++ [(2, F a b, nI a, nI c)]
    else if k = 4 then [(3, F a b, nI a, nI c)]
    else if k = 6 then cg t V F l p h se ++ (14, 1, nI a, 0) :: (cg t V F r (p + ln l + 1) (h + 1) se ++ [(14, 2, nI b, 0), (5, 0, 0, 0)])
    else if k = 7 then cg t V F l p h se ++ (14, 3, nI a, 0) :: (cg t V F r (p + ln l + 1) (h + 1) se ++ [(14, 1, nI b, 0), (6, 0, 0, 0)])
    else if k = 8 then cg t V F l p h se ++ (12, wv t a b, 0, 1) :: (cg t V F r (p + ln l + 1) (h + 1) ((nmT t a b, h) :: se) ++ [(13, 1, 0, 0)])
    else if k = 9 then cg t V F l p h se ++ (14, 1, nI a, 0) :: (8, lN (p + ln l + lnL r + 3), 0, 0) :: (cg t V F r (p + ln l + 2) h se ++ [(16, 0, nI b, 0)])
    else if k = 10 then cg t V F l p h se ++ (14, 2, nI a, 0) :: (10, lN (p + ln l + lnL r + 3), 0, 0) :: (cg t V F r (p + ln l + 2) h se ++ [(13, 2, 0, 0), (16, 0, nI b, 0)])
    else if k = 11 then cg t V F l p h se ++ (14, 1, nI b, 0) :: (cg t V F r (p + ln l + 1) (h + 1) se ++ [(14, 1, nI c, 0), (nI a, 0, 0, 0)])
    else if k = 12 then cg t V F l p h se ++ (cg t V F r (p + ln l) (h + 1) se ++ [(14, 1, nI c, 0), (nI a, 0, 0, 0)])
    else if k = 20 then cg t V F l p h se ++ (9, lN (p + ln l + ln r + 2), 0, 0) :: cg t V F r (p + ln l + 1) h se
    else if k = 21 then cg t V F l p h se ++ (15, wv t a b, nI c, nI d) :: cg t V F r (p + ln l + 1) (h + 1) se
    else if k = 22 then cg t V F l p h se ++ (9, lN (p + ln l + ln r + 6), 0, 0) :: (11, 0, 0, 0) :: (12, wv t a b, 0, 2) :: (12, wv t c d, 0, 1) :: cg t V F r (p + ln l + 4) (h + 2) ((nmT t c d, h + 1) :: (nmT t a b, h) :: se)
    else [(4, 0, nI a, 0)]
section CG
variable {t : Nat → UInt8} {V : Nat → Nat → List (List Nat × Nat) → Int64} {F : Nat → Nat → Int64} {a b c d p h : Nat} {l r : Tr} {se : List (List Nat × Nat)}
theorem cg_0 : cg t V F (nd 0 a b c d l r) p h se = [(0, lN a, nI b, 0)] := rfl
theorem ln_0 : ln (nd 0 a b c d l r) = 1 := rfl
theorem cg_1 : cg t V F (nd 1 a b c d l r) p h se = cg t V F l p h se ++ (14, 1, nI b, 0) :: (if a % 2 = 1 then [(7, 0, 0, 0)] else []) := rfl
theorem ln_1 : ln (nd 1 a b c d l r) = ln l + 1 + a % 2 := rfl
theorem cg_2 : cg t V F (nd 2 a b c d l r) p h se = [(1, V a b se, nI a, 0)] := rfl
theorem ln_2 : ln (nd 2 a b c d l r) = 1 := rfl
theorem cg_3 : cg t V F (nd 3 a b c d l r) p h se = cg t V F l p h se ++ [(2, F a b, nI a, nI c)] := rfl
theorem ln_3 : ln (nd 3 a b c d l r) = ln l + 1 := rfl
theorem cg_4 : cg t V F (nd 4 a b c d l r) p h se = [(3, F a b, nI a, nI c)] := rfl
theorem ln_4 : ln (nd 4 a b c d l r) = 1 := rfl
theorem cg_5 : cg t V F (nd 5 a b c d l r) p h se = [(4, 0, nI a, 0)] := rfl
theorem ln_5 : ln (nd 5 a b c d l r) = 1 := rfl
theorem cg_6 : cg t V F (nd 6 a b c d l r) p h se = cg t V F l p h se ++ (14, 1, nI a, 0) :: (cg t V F r (p + ln l + 1) (h + 1) se ++ [(14, 2, nI b, 0), (5, 0, 0, 0)]) := rfl
theorem ln_6 : ln (nd 6 a b c d l r) = ln l + ln r + 3 := rfl
theorem cg_7 : cg t V F (nd 7 a b c d l r) p h se = cg t V F l p h se ++ (14, 3, nI a, 0) :: (cg t V F r (p + ln l + 1) (h + 1) se ++ [(14, 1, nI b, 0), (6, 0, 0, 0)]) := rfl
theorem ln_7 : ln (nd 7 a b c d l r) = ln l + ln r + 3 := rfl
theorem cg_8 : cg t V F (nd 8 a b c d l r) p h se = cg t V F l p h se ++ (12, wv t a b, 0, 1) :: (cg t V F r (p + ln l + 1) (h + 1) ((nmT t a b, h) :: se) ++ [(13, 1, 0, 0)]) := rfl
theorem ln_8 : ln (nd 8 a b c d l r) = ln l + ln r + 2 := rfl
theorem cg_9 : cg t V F (nd 9 a b c d l r) p h se = cg t V F l p h se ++ (14, 1, nI a, 0) :: (8, lN (p + ln l + lnL r + 3), 0, 0) :: (cg t V F r (p + ln l + 2) h se ++ [(16, 0, nI b, 0)]) := rfl
theorem ln_9 : ln (nd 9 a b c d l r) = ln l + ln r + 3 := rfl
theorem cg_10 : cg t V F (nd 10 a b c d l r) p h se = cg t V F l p h se ++ (14, 2, nI a, 0) :: (10, lN (p + ln l + lnL r + 3), 0, 0) :: (cg t V F r (p + ln l + 2) h se ++ [(13, 2, 0, 0), (16, 0, nI b, 0)]) := rfl
theorem ln_10 : ln (nd 10 a b c d l r) = ln l + ln r + 4 := rfl
theorem cg_11 : cg t V F (nd 11 a b c d l r) p h se = cg t V F l p h se ++ (14, 1, nI b, 0) :: (cg t V F r (p + ln l + 1) (h + 1) se ++ [(14, 1, nI c, 0), (nI a, 0, 0, 0)]) := rfl
theorem ln_11 : ln (nd 11 a b c d l r) = ln l + ln r + 3 := rfl
theorem cg_12 : cg t V F (nd 12 a b c d l r) p h se = cg t V F l p h se ++ (cg t V F r (p + ln l) (h + 1) se ++ [(14, 1, nI c, 0), (nI a, 0, 0, 0)]) := rfl
theorem ln_12 : ln (nd 12 a b c d l r) = ln l + ln r + 2 := rfl
theorem cg_20 : cg t V F (nd 20 a b c d l r) p h se = cg t V F l p h se ++ (9, lN (p + ln l + ln r + 2), 0, 0) :: cg t V F r (p + ln l + 1) h se := rfl
theorem ln_20 : ln (nd 20 a b c d l r) = ln l + ln r + 1 := rfl
theorem cg_21 : cg t V F (nd 21 a b c d l r) p h se = cg t V F l p h se ++ (15, wv t a b, nI c, nI d) :: cg t V F r (p + ln l + 1) (h + 1) se := rfl
theorem ln_21 : ln (nd 21 a b c d l r) = ln l + ln r + 1 := rfl
theorem cg_22 : cg t V F (nd 22 a b c d l r) p h se = cg t V F l p h se ++ (9, lN (p + ln l + ln r + 6), 0, 0) :: (11, 0, 0, 0) :: (12, wv t a b, 0, 2) :: (12, wv t c d, 0, 1) :: cg t V F r (p + ln l + 4) (h + 2) ((nmT t c d, h + 1) :: (nmT t a b, h) :: se) := rfl
theorem ln_22 : ln (nd 22 a b c d l r) = ln l + ln r + 4 := rfl
theorem lnL_nd {k : Nat} : lnL (nd k a b c d l r) = ln l := rfl
theorem k_or (k : Nat) : k = 0 ∨ k = 1 ∨ k = 2 ∨ k = 3 ∨ k = 4 ∨ k = 6 ∨ k = 7 ∨ k = 8 ∨ k = 9 ∨ k = 10 ∨ k = 11 ∨ k = 12 ∨ k = 20 ∨ k = 21 ∨ k = 22 ∨ (¬ k = 0 ∧ ¬ k = 1 ∧ ¬ k = 2 ∧ ¬ k = 3 ∧ ¬ k = 4 ∧ ¬ k = 6 ∧ ¬ k = 7 ∧ ¬ k = 8 ∧ ¬ k = 9 ∧ ¬ k = 10 ∧ ¬ k = 11 ∧ ¬ k = 12 ∧ ¬ k = 20 ∧ ¬ k = 21 ∧ ¬ k = 22) := by omega
theorem cg_else {k : Nat} (e : ¬ k = 0 ∧ ¬ k = 1 ∧ ¬ k = 2 ∧ ¬ k = 3 ∧ ¬ k = 4 ∧ ¬ k = 6 ∧ ¬ k = 7 ∧ ¬ k = 8 ∧ ¬ k = 9 ∧ ¬ k = 10 ∧ ¬ k = 11 ∧ ¬ k = 12 ∧ ¬ k = 20 ∧ ¬ k = 21 ∧ ¬ k = 22) : cg t V F (nd k a b c d l r) p h se = [(4, 0, nI a, 0)] ∧ ln (nd k a b c d l r) = 1 := by
  obtain ⟨e0, e1, e2, e3, e4, e6, e7, e8, e9, e10, e11, e12, e20, e21, e22⟩ := e
  refine ⟨?_, ?_⟩
  · unfold nd cg
    rw [if_neg e0, if_neg e1, if_neg e2, if_neg e3, if_neg e4, if_neg e6, if_neg e7, if_neg e8, if_neg e9, if_neg e10, if_neg e11, if_neg e12, if_neg e20, if_neg e21, if_neg e22]
  · unfold nd ln
    rw [if_neg e1, if_neg e3, if_neg (by omega), if_neg (by omega), if_neg (by omega), if_neg (by omega)]
theorem cg_len : ∀ (T : Tr) (p h : Nat) (se : List (List Nat × Nat)), (cg t V F T p h se).length = ln T := by
  refine tr_ind (fun _ _ _ => rfl) (fun k a b c d l r hl hr _ p h se => ?_)
  rcases k_or k with rfl | rfl | rfl | rfl | rfl | rfl | rfl | rfl | rfl | rfl | rfl | rfl | rfl | rfl | rfl | e
  · rfl
  · rw [cg_1, ln_1, List.length_append, hl, List.length_cons]
    rcases Nat.mod_two_eq_zero_or_one a with e | e
    · rw [e]; rfl
    · rw [e]; rfl
  · rfl
  · rw [cg_3, ln_3]; simp only [List.length_append, List.length_cons, List.length_nil, hl]
  · rfl
  · rw [cg_6, ln_6]; simp only [List.length_append, List.length_cons, List.length_nil, hl, hr]; omega
  · rw [cg_7, ln_7]; simp only [List.length_append, List.length_cons, List.length_nil, hl, hr]; omega
  · rw [cg_8, ln_8]; simp only [List.length_append, List.length_cons, List.length_nil, hl, hr]; omega
  · rw [cg_9, ln_9]; simp only [List.length_append, List.length_cons, List.length_nil, hl, hr]; omega
  · rw [cg_10, ln_10]; simp only [List.length_append, List.length_cons, List.length_nil, hl, hr]; omega
  · rw [cg_11, ln_11]; simp only [List.length_append, List.length_cons, List.length_nil, hl, hr]; omega
  · rw [cg_12, ln_12]; simp only [List.length_append, List.length_cons, List.length_nil, hl, hr]; omega
  · rw [cg_20, ln_20]; simp only [List.length_append, List.length_cons, List.length_nil, hl, hr]; omega
  · rw [cg_21, ln_21]; simp only [List.length_append, List.length_cons, List.length_nil, hl, hr]; omega
  · rw [cg_22, ln_22]; simp only [List.length_append, List.length_cons, List.length_nil, hl, hr]; omega
  · rw [(cg_else e).1, (cg_else (t := t) (V := V) (F := F) (p := p) (h := h) (se := se) e).2]; rfl
end CG
/-- as it is read: a NAME is its number -/
def rVw (t : Nat → UInt8) (a z : Nat) (_ : List (List Nat × Nat)) : Int64 := wv t a z
def cr (t : Nat → UInt8) (T : Tr) (p : Nat) : List cdE := cg t (rVw t) (wv t) T p 0 []
theorem cr_any {t : Nat → UInt8} : ∀ (T : Tr) (p h : Nat) (se : List (List Nat × Nat)), cg t (rVw t) (wv t) T p h se = cr t T p := by
  have key : ∀ (T : Tr) (p h h2 : Nat) (se se2 : List (List Nat × Nat)), cg t (rVw t) (wv t) T p h se = cg t (rVw t) (wv t) T p h2 se2 := by
    refine tr_ind (fun _ _ _ _ _ => rfl) (fun k a b c d l r hl hr _ p h h2 se se2 => ?_)
    rcases k_or k with rfl | rfl | rfl | rfl | rfl | rfl | rfl | rfl | rfl | rfl | rfl | rfl | rfl | rfl | rfl | e
    · rfl
    · rw [cg_1, cg_1, hl p h h2 se se2]
    · rfl
    · rw [cg_3, cg_3, hl p h h2 se se2]
    · rfl
    · rw [cg_6, cg_6, hl p h h2 se se2, hr _ (h + 1) (h2 + 1) se se2]
    · rw [cg_7, cg_7, hl p h h2 se se2, hr _ (h + 1) (h2 + 1) se se2]
    · rw [cg_8, cg_8, hl p h h2 se se2, hr _ (h + 1) (h2 + 1) _ ((nmT t a b, h2) :: se2)]
    · rw [cg_9, cg_9, hl p h h2 se se2, hr _ h h2 se se2]
    · rw [cg_10, cg_10, hl p h h2 se se2, hr _ h h2 se se2]
    · rw [cg_11, cg_11, hl p h h2 se se2, hr _ (h + 1) (h2 + 1) se se2]
    · rw [cg_12, cg_12, hl p h h2 se se2, hr _ (h + 1) (h2 + 1) se se2]
    · rw [cg_20, cg_20, hl p h h2 se se2, hr _ h h2 se se2]
    · rw [cg_21, cg_21, hl p h h2 se se2, hr _ (h + 1) (h2 + 1) se se2]
    · rw [cg_22, cg_22, hl p h h2 se se2, hr _ (h + 2) (h2 + 2) _ ((nmT t c d, h2 + 1) :: (nmT t a b, h2) :: se2)]
    · rw [(cg_else e).1, (cg_else e).1]
  exact fun T p h se => key T p h 0 se []
theorem cr_len {t : Nat → UInt8} {T : Tr} {p : Nat} : (cr t T p).length = ln T := cg_len T p 0 []
section CRE
variable {t : Nat → UInt8} {a b c d p : Nat} {l r : Tr}
theorem cr_0 : cr t (nd 0 a b c d l r) p = [(0, lN a, nI b, 0)] := rfl
theorem cr_1 : cr t (nd 1 a b c d l r) p = cr t l p ++ (14, 1, nI b, 0) :: (if a % 2 = 1 then [(7, 0, 0, 0)] else []) := by unfold cr; rw [cg_1]; try simp only [cr_any]
theorem cr_2 : cr t (nd 2 a b c d l r) p = [(1, wv t a b, nI a, 0)] := rfl
theorem cr_3 : cr t (nd 3 a b c d l r) p = cr t l p ++ [(2, wv t a b, nI a, nI c)] := by unfold cr; rw [cg_3]; try simp only [cr_any]
theorem cr_4 : cr t (nd 4 a b c d l r) p = [(3, wv t a b, nI a, nI c)] := rfl
theorem cr_5 : cr t (nd 5 a b c d l r) p = [(4, 0, nI a, 0)] := rfl
theorem cr_6 : cr t (nd 6 a b c d l r) p = cr t l p ++ (14, 1, nI a, 0) :: (cr t r (p + ln l + 1) ++ [(14, 2, nI b, 0), (5, 0, 0, 0)]) := by unfold cr; rw [cg_6]; try simp only [cr_any]
theorem cr_7 : cr t (nd 7 a b c d l r) p = cr t l p ++ (14, 3, nI a, 0) :: (cr t r (p + ln l + 1) ++ [(14, 1, nI b, 0), (6, 0, 0, 0)]) := by unfold cr; rw [cg_7]; try simp only [cr_any]
theorem cr_8 : cr t (nd 8 a b c d l r) p = cr t l p ++ (12, wv t a b, 0, 1) :: (cr t r (p + ln l + 1) ++ [(13, 1, 0, 0)]) := by unfold cr; rw [cg_8]; try simp only [cr_any]
theorem cr_9 : cr t (nd 9 a b c d l r) p = cr t l p ++ (14, 1, nI a, 0) :: (8, lN (p + ln l + lnL r + 3), 0, 0) :: (cr t r (p + ln l + 2) ++ [(16, 0, nI b, 0)]) := by unfold cr; rw [cg_9]; try simp only [cr_any]
theorem cr_10 : cr t (nd 10 a b c d l r) p = cr t l p ++ (14, 2, nI a, 0) :: (10, lN (p + ln l + lnL r + 3), 0, 0) :: (cr t r (p + ln l + 2) ++ [(13, 2, 0, 0), (16, 0, nI b, 0)]) := by unfold cr; rw [cg_10]; try simp only [cr_any]
theorem cr_11 : cr t (nd 11 a b c d l r) p = cr t l p ++ (14, 1, nI b, 0) :: (cr t r (p + ln l + 1) ++ [(14, 1, nI c, 0), (nI a, 0, 0, 0)]) := by unfold cr; rw [cg_11]; try simp only [cr_any]
theorem cr_12 : cr t (nd 12 a b c d l r) p = cr t l p ++ (cr t r (p + ln l) ++ [(14, 1, nI c, 0), (nI a, 0, 0, 0)]) := by unfold cr; rw [cg_12]; try simp only [cr_any]
theorem cr_20 : cr t (nd 20 a b c d l r) p = cr t l p ++ (9, lN (p + ln l + ln r + 2), 0, 0) :: cr t r (p + ln l + 1) := by unfold cr; rw [cg_20]; try simp only [cr_any]
theorem cr_21 : cr t (nd 21 a b c d l r) p = cr t l p ++ (15, wv t a b, nI c, nI d) :: cr t r (p + ln l + 1) := by unfold cr; rw [cg_21]; try simp only [cr_any]
theorem cr_22 : cr t (nd 22 a b c d l r) p = cr t l p ++ (9, lN (p + ln l + ln r + 6), 0, 0) :: (11, 0, 0, 0) :: (12, wv t a b, 0, 2) :: (12, wv t c d, 0, 1) :: cr t r (p + ln l + 4) := by unfold cr; rw [cg_22]; try simp only [cr_any]
end CRE
/-! rows grown, jumps landed -/
theorem cdA_len {C : List cdE} {e : cdE} : C.length ≤ (cdA C e).length ∧ (C.length < 3000 → C.length < (cdA C e).length) ∧ min C.length 2999 < (cdA C e).length := by
  unfold cdA
  split
  · rw [List.length_append]
    have : [e].length = 1 := rfl
    omega
  · exact ⟨Nat.le_refl _, fun z => absurd z (by assumption), by omega⟩
theorem cdA_go {C : List cdE} {e : cdE} (h : C.length < 3000) : cdA C e = C ++ [e] := if_pos h
theorem cdL_len {C : List cdE} {j : Nat} : (cdL C j).length = C.length := by
  unfold cdL
  split
  · rw [List.length_set]
  · rfl
theorem cdL_go {P Q : List cdE} {x : cdE} {j : Nat} (h : j = P.length) : cdL (P ++ x :: Q) j = P ++ (x.1, lN (P.length + Q.length + 1), x.2.2) :: Q := by
  subst h
  unfold cdL
  have e : (P ++ x :: Q)[P.length]? = some x := by
    rw [List.getElem?_append_right (Nat.le_refl _), Nat.sub_self]; rfl
  rw [e]
  simp only [List.length_append, List.length_cons]
  rw [List.set_append_right _ _ (Nat.le_refl _), Nat.sub_self]
  rfl
/-- from B on the CODE of T has been added, if no fault was met and there is room -/
def Go (t : Nat → UInt8) (T : Tr) (s : PS) (B C : List cdE) : Prop := B.length ≤ C.length ∧ (s.2.1 = none → B.length + ln T ≤ 3000 → C = B ++ cr t T B.length)
