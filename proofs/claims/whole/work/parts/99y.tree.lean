/-! PROGRAMS AS TREES; the parser in the middle -/
abbrev Lb : Type := Nat × Nat × Nat × Nat
/-- a tree: its kind, four numbers, two parts. 0 a NUMBER (value, where), 1 signs before an ATOM (how many, where the ATOM), 2 a NAME (where, size), 3 a CALL (where, size, how many; the row of its E), 4 & (where the NAME, size, where the sign), 5 nil (where), 6 cons, 7 do (where the first, the second), 8 let (where the NAME, size), 9 if (where the first, the third; behind it 20: both parts), 10 match (likewise; behind it 22: both parts, the two NAMES), 11 two of which the left one is a part, 12 two of which the left one is such two (sign, where each), 21 an E of a CALL (the CALL's NAME, where, which), the others -/
abbrev Tr : Type := Std.DTreeMap.Internal.Impl Lb (fun _ => Unit)
def nd (k a b c d : Nat) (l r : Tr) : Tr := .inner k (a, b, c, d) () l r
theorem tr_ind {P : Tr → Prop} (h0 : P .leaf) (h1 : ∀ k a b c d l r, P l → P r → True → P (nd k a b c d l r)) : ∀ T, P T := by
  intro T
  induction T with
  | leaf => exact h0
  | inner k v u l r ihl ihr => exact h1 k v.1 v.2.1 v.2.2.1 v.2.2.2 l r ihl ihr trivial
/-- how many ATOMS at least -/
def sz : Tr → Nat
  | .leaf => 0
  | .inner k (a, _, _, _) _ l r => if k = 1 then a + sz l else if k = 3 then 1 + sz l else if k = 6 ∨ k = 7 then 1 + sz l + sz r else if 8 ≤ k then sz l + sz r else 1
/-- how many entries of CODE -/
def ln : Tr → Nat
  | .leaf => 0
  | .inner k (a, _, _, _) _ l r => if k = 1 then ln l + 1 + a % 2 else if k = 3 then ln l + 1 else if k = 6 ∨ k = 7 ∨ k = 9 ∨ k = 11 then ln l + ln r + 3 else if k = 8 ∨ k = 12 then ln l + ln r + 2 else if k = 10 ∨ k = 22 then ln l + ln r + 4 else if k = 20 ∨ k = 21 then ln l + ln r + 1 else 1
/-- how many of the first part -/
def lnL : Tr → Nat
  | .leaf => 0
  | .inner _ _ _ l _ => ln l
/-- how high a RUN stands at most (of a CALL four E at most) -/
def hR : Tr → Nat
  | .leaf => 0
  | .inner k (_, _, _, d) _ l r => if k = 1 then hR l else if k = 3 then max 1 (hR l) else if k = 6 ∨ k = 7 ∨ k = 8 ∨ k = 11 ∨ k = 12 then max (hR l) (1 + hR r) else if k = 9 ∨ k = 10 ∨ k = 20 then max (hR l) (hR r) else if k = 22 then max (hR l) (2 + hR r) else if k = 21 then max (min d 3 + hR l) (hR r) else 1
/-- how many NAMES stand around at most -/
def nD : Tr → Nat
  | .leaf => 0
  | .inner k _ _ l r => if k = 8 then max (nD l) (1 + nD r) else if k = 22 then max (nD l) (2 + nD r) else max (nD l) (nD r)
/-- how many if, match within one another -/
def pD : Tr → Nat
  | .leaf => 0
  | .inner k _ _ l r => if k = 20 ∨ k = 22 then max (pD l) (1 + pD r) else max (pD l) (pD r)
/-- a NAME stands there -/
def nmOK (t : Nat → UInt8) (n a z : Nat) : Prop := ∃ i, kX t (tkAt t n i) = 1 ∧ a = (tkAt t n i).2.1 ∧ z = (tkAt t n i).2.2.1 - (tkAt t n i).2.1
/-- how many E a row has -/
def cnt : Tr → Nat
  | .leaf => 0
  | .inner _ _ _ _ r => 1 + cnt r
/-- two with a sign between -/
def isC : Tr → Prop
  | .leaf => False
  | .inner k _ _ _ _ => k = 11 ∨ k = 12
/-- the tree is one of an E (0), of a row of E (1; of which CALL, from which on), of both parts of if (2), of match (3) -/
def okT (t : Nat → UInt8) (n : Nat) : Tr → Nat → Nat → Nat → Nat → Prop
  | .leaf, m, _, _, _ => m = 1
  | .inner k (a, b, c, d) _ l r, m, a0, z0, k0 =>
    if m = 1 then k = 21 ∧ a = a0 ∧ b = z0 ∧ c ≤ 4000 ∧ d = k0 ∧ okT t n l 0 0 0 0 ∧ okT t n r 1 a0 z0 (k0 + 1)
    else if m = 2 then k = 20 ∧ okT t n l 0 0 0 0 ∧ okT t n r 0 0 0 0
    else if m = 3 then k = 22 ∧ nmOK t n a b ∧ nmOK t n c d ∧ okT t n l 0 0 0 0 ∧ okT t n r 0 0 0 0
    else if k = 0 then a < 2147483648 ∧ b ≤ 4000 ∧ l = .leaf ∧ r = .leaf
    else if k = 1 then 1 ≤ a ∧ a ≤ 400 ∧ b ≤ 4000 ∧ okT t n l 0 0 0 0 ∧ r = .leaf
    else if k = 2 then nmOK t n a b ∧ l = .leaf ∧ r = .leaf
    else if k = 3 then nmOK t n a b ∧ c = cnt l ∧ 1 ≤ c ∧ okT t n l 1 a b 0 ∧ r = .leaf
    else if k = 4 then nmOK t n a b ∧ c ≤ 4000 ∧ l = .leaf ∧ r = .leaf
    else if k = 5 then a ≤ 4000 ∧ l = .leaf ∧ r = .leaf
    else if k = 6 then a ≤ 4000 ∧ b ≤ 4000 ∧ okT t n l 0 0 0 0 ∧ okT t n r 0 0 0 0
    else if k = 7 then a ≤ 4000 ∧ b ≤ 4000 ∧ okT t n l 0 0 0 0 ∧ okT t n r 0 0 0 0
    else if k = 8 then nmOK t n a b ∧ okT t n l 0 0 0 0 ∧ okT t n r 0 0 0 0
    else if k = 9 then a ≤ 4000 ∧ b ≤ 4000 ∧ okT t n l 0 0 0 0 ∧ okT t n r 2 0 0 0
    else if k = 10 then a ≤ 4000 ∧ b ≤ 4000 ∧ okT t n l 0 0 0 0 ∧ okT t n r 3 0 0 0
    else if k = 11 then a ∈ [42, 43, 45, 47, 37, 60, 128] ∧ b ≤ 4000 ∧ c ≤ 4000 ∧ okT t n l 0 0 0 0 ∧ okT t n r 0 0 0 0
    else if k = 12 then a ∈ [42, 43, 45, 47, 37, 60, 128] ∧ b ≤ 4000 ∧ c ≤ 4000 ∧ okT t n l 0 0 0 0 ∧ okT t n r 0 0 0 0 ∧ isC l
    else False
section OKE
variable {t : Nat → UInt8} {n k a b c d a0 z0 k0 : Nat} {l r : Tr}
theorem ok_0 : okT t n (nd 0 a b c d l r) 0 a0 z0 k0 = (a < 2147483648 ∧ b ≤ 4000 ∧ l = .leaf ∧ r = .leaf) := rfl
theorem ok_1 : okT t n (nd 1 a b c d l r) 0 a0 z0 k0 = (1 ≤ a ∧ a ≤ 400 ∧ b ≤ 4000 ∧ okT t n l 0 0 0 0 ∧ r = .leaf) := rfl
theorem ok_2 : okT t n (nd 2 a b c d l r) 0 a0 z0 k0 = (nmOK t n a b ∧ l = .leaf ∧ r = .leaf) := rfl
theorem ok_3 : okT t n (nd 3 a b c d l r) 0 a0 z0 k0 = (nmOK t n a b ∧ c = cnt l ∧ 1 ≤ c ∧ okT t n l 1 a b 0 ∧ r = .leaf) := rfl
theorem ok_4 : okT t n (nd 4 a b c d l r) 0 a0 z0 k0 = (nmOK t n a b ∧ c ≤ 4000 ∧ l = .leaf ∧ r = .leaf) := rfl
theorem ok_5 : okT t n (nd 5 a b c d l r) 0 a0 z0 k0 = (a ≤ 4000 ∧ l = .leaf ∧ r = .leaf) := rfl
theorem ok_6 : okT t n (nd 6 a b c d l r) 0 a0 z0 k0 = (a ≤ 4000 ∧ b ≤ 4000 ∧ okT t n l 0 0 0 0 ∧ okT t n r 0 0 0 0) := rfl
theorem ok_7 : okT t n (nd 7 a b c d l r) 0 a0 z0 k0 = (a ≤ 4000 ∧ b ≤ 4000 ∧ okT t n l 0 0 0 0 ∧ okT t n r 0 0 0 0) := rfl
theorem ok_8 : okT t n (nd 8 a b c d l r) 0 a0 z0 k0 = (nmOK t n a b ∧ okT t n l 0 0 0 0 ∧ okT t n r 0 0 0 0) := rfl
theorem ok_9 : okT t n (nd 9 a b c d l r) 0 a0 z0 k0 = (a ≤ 4000 ∧ b ≤ 4000 ∧ okT t n l 0 0 0 0 ∧ okT t n r 2 0 0 0) := rfl
theorem ok_10 : okT t n (nd 10 a b c d l r) 0 a0 z0 k0 = (a ≤ 4000 ∧ b ≤ 4000 ∧ okT t n l 0 0 0 0 ∧ okT t n r 3 0 0 0) := rfl
theorem ok_11 : okT t n (nd 11 a b c d l r) 0 a0 z0 k0 = (a ∈ [42, 43, 45, 47, 37, 60, 128] ∧ b ≤ 4000 ∧ c ≤ 4000 ∧ okT t n l 0 0 0 0 ∧ okT t n r 0 0 0 0) := rfl
theorem ok_12 : okT t n (nd 12 a b c d l r) 0 a0 z0 k0 = (a ∈ [42, 43, 45, 47, 37, 60, 128] ∧ b ≤ 4000 ∧ c ≤ 4000 ∧ okT t n l 0 0 0 0 ∧ okT t n r 0 0 0 0 ∧ isC l) := rfl
theorem ok_21 : okT t n (nd k a b c d l r) 1 a0 z0 k0 = (k = 21 ∧ a = a0 ∧ b = z0 ∧ c ≤ 4000 ∧ d = k0 ∧ okT t n l 0 0 0 0 ∧ okT t n r 1 a0 z0 (k0 + 1)) := rfl
theorem ok_20 : okT t n (nd k a b c d l r) 2 a0 z0 k0 = (k = 20 ∧ okT t n l 0 0 0 0 ∧ okT t n r 0 0 0 0) := rfl
theorem ok_22 : okT t n (nd k a b c d l r) 3 a0 z0 k0 = (k = 22 ∧ nmOK t n a b ∧ nmOK t n c d ∧ okT t n l 0 0 0 0 ∧ okT t n r 0 0 0 0) := rfl
theorem ok_k {T : Tr} (h : okT t n T 0 a0 z0 k0) : ∃ k a b c d l r, T = nd k a b c d l r ∧ k ≤ 12 := by
  cases T with
  | leaf => exact absurd (show 0 = 1 from h) (by decide)
  | inner k v u l r =>
    refine ⟨k, v.1, v.2.1, v.2.2.1, v.2.2.2, l, r, rfl, ?_⟩
    have h2 : okT t n (nd k v.1 v.2.1 v.2.2.1 v.2.2.2 l r) 0 a0 z0 k0 := h
    unfold nd okT at h2
    by_cases c : k ≤ 12
    · exact c
    · rw [if_neg (by decide), if_neg (by decide), if_neg (by decide)] at h2
      iterate 13 rw [if_neg (by omega)] at h2
      exact absurd h2 (fun z => z)
end OKE
/-! the parser: TOKEN, fault, ATOMS -/
abbrev PS : Type := Nat × Option Nat × Nat
section PA
variable (t : Nat → UInt8) (n : Nat)
def kA (i : Nat) : Int32 := kX t (tkAt t n i)
def aA (i : Nat) : Nat := (tkAt t n i).2.1
def zA (i : Nat) : Nat := (tkAt t n i).2.2.1 - (tkAt t n i).2.1
def oA (i : Nat) : Nat := (kX t (tkAt t n i)).toNatClampNeg
def eK (k : Int32) (s : PS) : PS := ((exK t n (decide (kX t (tkAt t n s.1) = k)) s.1 s.2.1).1, (exK t n (decide (kX t (tkAt t n s.1) = k)) s.1 s.2.1).2, s.2.2)
/-- the TOKEN behind it -/
def nxt (s : PS) : PS := (s.1 + 1, none, s.2.2)
/-- a fault here -/
def ft (s : PS) : PS := (s.1, some (aA t n s.1), s.2.2)
/-- signs: TOKEN, fault, how many -/
def pNg : Nat → Nat → Nat → PS
  | 0, i, m => (i, some (aA t n i), m)
  | f + 1, i, m => if kA t n i = 45 then pNg f (i + 1) (m + 1) else (i, none, m)
def pAr (E : PS → PS × Tr) (a z : Nat) : Nat → Nat → PS → PS × Tr
  | 0, _, s => (s, .leaf)
  | f + 1, k, s => if (E s).1.2.1 = none ∧ kA t n (E s).1.1 = 44 then ((pAr E a z f (k + 1) (nxt (E s).1)).1, nd 21 a z (aA t n s.1) k (E s).2 (pAr E a z f (k + 1) (nxt (E s).1)).2) else ((E s).1, nd 21 a z (aA t n s.1) k (E s).2 .leaf)
/-- two E in ( , ) -/
def pPr (E : PS → PS × Tr) (k : Nat) (s : PS) : PS × Tr :=
  let s1 := eK t n 40 (nxt s)
  let r1 := E s1
  let s2 := eK t n 44 r1.1
  let r2 := E s2
  (eK t n 41 r2.1, nd k (aA t n s1.1) (aA t n s2.1) 0 0 r1.2 r2.2)
def pPl (E : PS → PS × Tr) (s : PS) : PS × Tr :=
  if kA t n s.1 = 1 then (if kA t n (s.1 + 1) = 40 then (eK t n 41 (pAr t n E (aA t n s.1) (zA t n s.1) 401 0 (nxt (nxt s))).1, nd 3 (aA t n s.1) (zA t n s.1) (cnt (pAr t n E (aA t n s.1) (zA t n s.1) 401 0 (nxt (nxt s))).2) 0 (pAr t n E (aA t n s.1) (zA t n s.1) 401 0 (nxt (nxt s))).2 .leaf) else (nxt s, nd 2 (aA t n s.1) (zA t n s.1) 0 0 .leaf .leaf))
  else if kA t n s.1 = 2 then (nxt s, nd 0 (nvT t (tkAt t n s.1).2.1 (tkAt t n s.1).2.2.1) (aA t n s.1) 0 0 .leaf .leaf)
  else if kA t n s.1 = 12 then (nxt s, nd 5 (aA t n s.1) 0 0 0 .leaf .leaf)
  else if kA t n s.1 = 13 then pPr t n E 6 s
  else if kA t n s.1 = 14 then pPr t n E 7 s
  else if kA t n s.1 = 38 then (eK t n 1 (nxt s), nd 4 (aA t n (s.1 + 1)) (zA t n (s.1 + 1)) (aA t n s.1) 0 .leaf .leaf)
  else if kA t n s.1 = 40 then (eK t n 41 (E (nxt s)).1, (E (nxt s)).2)
  else (ft t n s, .leaf)
def pAt (E : PS → PS × Tr) (s : PS) : PS × Tr :=
  let r := pNg t n (400 - s.2.2) s.1 0
  let s1 : PS := (r.1, r.2.1, s.2.2 + r.2.2 + 1)
  if r.2.1 = none then ((pPl t n E s1).1, if r.2.2 = 0 then (pPl t n E s1).2 else nd 1 r.2.2 (aA t n r.1) 0 0 (pPl t n E s1).2 .leaf) else (s1, .leaf)
/-- parts with signs of a level between -/
def pL (lev : Int32) (P : PS → PS × Tr) (wh : Nat) : Nat → Bool → PS → Tr → PS × Tr
  | 0, _, s, T => (s, T)
  | f + 1, b, s, T => if s.2.1 = none ∧ lvl (oA t n s.1) = lev then pL lev P wh f false (P (nxt s)).1 (nd (if b then 11 else 12) (oA t n s.1) wh (aA t n (s.1 + 1)) 0 T (P (nxt s)).2) else (s, T)
def pP2 (E : PS → PS × Tr) (s : PS) : PS × Tr := pL t n 2 (pAt t n E) (aA t n s.1) 400 true (pAt t n E s).1 (pAt t n E s).2
def pP1 (E : PS → PS × Tr) (s : PS) : PS × Tr := pL t n 1 (pP2 t n E) (aA t n s.1) 400 true (pP2 t n E s).1 (pP2 t n E s).2
def pP0 (E : PS → PS × Tr) (s : PS) : PS × Tr := pL t n 0 (pP1 t n E) (aA t n s.1) 1 true (pP1 t n E s).1 (pP1 t n E s).2
def pLe (E : PS → PS × Tr) (s : PS) : PS × Tr :=
  let r1 := E (eK t n 61 (eK t n 1 (nxt s)))
  let r2 := E (eK t n 6 r1.1)
  (r2.1, nd 8 (aA t n (s.1 + 1)) (zA t n (s.1 + 1)) 0 0 r1.2 r2.2)
def pIf (E : PS → PS × Tr) (s : PS) : PS × Tr :=
  let r1 := E (nxt s)
  let r2 := E (eK t n 8 r1.1)
  let s3 := eK t n 9 r2.1
  let r3 := E s3
  (r3.1, nd 9 (aA t n (s.1 + 1)) (aA t n s3.1) 0 0 r1.2 (nd 20 0 0 0 0 r2.2 r3.2))
def pMa (E : PS → PS × Tr) (s : PS) : PS × Tr :=
  let r1 := E (nxt s)
  let r2 := E (eK t n 129 (eK t n 12 (eK t n 11 r1.1)))
  let s3 := eK t n 124 r2.1
  let s4 := eK t n 44 (eK t n 1 s3)
  let s5 := eK t n 129 (eK t n 1 s4)
  let r3 := E s5
  (r3.1, nd 10 (aA t n (s.1 + 1)) (aA t n s5.1) 0 0 r1.2 (nd 22 (aA t n s3.1) (zA t n s3.1) (aA t n s4.1) (zA t n s4.1) r2.2 r3.2))
/-- E, so many may be open yet -/
def pE : Nat → PS → PS × Tr
  | 0, s => if s.2.1 = none then (ft t n s, .leaf) else (s, .leaf)
  | g + 1, s => if s.2.1 = none then (if kA t n s.1 = 5 then pLe t n (pE g) s else if kA t n s.1 = 7 then pIf t n (pE g) s else if kA t n s.1 = 10 then pMa t n (pE g) s else pP0 t n (pE g) s) else (s, .leaf)
end PA
