/-! A PROGRAM runs: in the middle -/
/-- pairs (first, rest; a LIST is 0 or the number of its pair, from 1 on), orders, the deepest -/
abbrev rwS : Type := List (Int32 × Int32) × Nat × Nat
/-- the error (1-4) or what came -/
abbrev rR : Type := rwS × Except Nat (List Int32)
def rwB (r : rR) (k : rwS → List Int32 → rR) : rR := match r.2 with
  | .error x => (r.1, .error x)
  | .ok v => k r.1 v
def rwW (w : Option (Int32 × Int32)) (x : rR) (y : Int32 × Int32 → rR) : rR := match w with
  | none => x
  | some q => y q
def rH (v : List Int32) : Int32 := v.headD 0
/-- what stands with a NAME -/
def rL : List (List Nat × Int32) → List Nat → Int32
  | [], _ => 0
  | q :: e, x => if q.1 = x then q.2 else rL e x
/-- two with a sign between -/
def rO2 (a : Nat) (x y : Int32) : Except Nat (List Int32) :=
  if a = 42 then .ok [x * y] else if a = 43 then .ok [x + y] else if a = 45 then .ok [x - y] else if a = 60 then .ok [if x < y then 1 else 0] else if a = 128 then .ok [if x = y then 1 else 0] else if y = 0 then .error 1 else if a = 47 then .ok [x / y] else .ok [x - x / y * y]
def rCons (x y : Int32) (s : rwS) : rR := if s.1.length < 500 then ((s.1 ++ [(x, y)], s.2), .ok [nI (s.1.length + 1)]) else (s, .error 2)
/-- the parts of a pair -/
def rPr (v : Int32) (s : rwS) : Option (Int32 × Int32) := if 0 < v then s.1[v.toNatClampNeg - 1]? else none
section EV
variable (t : Nat → UInt8) (D : List FD)
/-- C runs a FUNCTION; of both parts (20, 22) w tells which -/
def evT (C : Nat → List Int32 → rwS → rR) : Tr → Option (Int32 × Int32) → List (List Nat × Int32) → rwS → rR
  | .leaf, _, _, s => (s, .ok [])
  | .inner k (a, b, c, d) _ l r, w, e, s =>
    if k = 0 then (s, .ok [nI a])
    else if k = 1 then rwB (evT C l none e s) fun s v => (s, .ok [if a % 2 = 1 then -(rH v) else rH v])
    else if k = 2 then (s, .ok [rL e (nmT t a b)])
    else if k = 3 then rwB (evT C l none e s) fun s v => C ((fnI t D (nmT t a b) 0).getD 0) v s
    else if k = 4 then (s, .ok [nI ((fnI t D (nmT t a b) 0).getD 0)])
    else if k = 5 then (s, .ok [0])
    else if k = 6 then rwB (evT C l none e s) fun s v => rwB (evT C r none e s) fun s u => rCons (rH v) (rH u) s
    else if k = 7 then rwB (evT C l none e s) fun s v => rwB (evT C r none e s) fun s u => C (rH v).toNatClampNeg u s
    else if k = 8 then rwB (evT C l none e s) fun s v => evT C r none ((nmT t a b, rH v) :: e) s
    else if k = 9 then rwB (evT C l none e s) fun s v => evT C r (if rH v = 0 then some (0, 0) else none) e s
    else if k = 10 then rwB (evT C l none e s) fun s v => evT C r (rPr (rH v) s) e s
    else if k = 20 then rwW w (evT C l none e s) (fun _ => evT C r none e s)
    else if k = 21 then rwB (evT C l none e s) fun s v => rwB (evT C r none e s) fun s u => (s, .ok (rH v :: u))
    else if k = 22 then rwW w (evT C l none e s) (fun q => evT C r none ((nmT t c d, q.2) :: (nmT t a b, q.1) :: e) s)
    else rwB (evT C l none e s) fun s v => rwB (evT C r none e s) fun s u => (s, rO2 a (rH v) (rH u))
/-- ARGUMENTS, the last one innermost -/
def rAr : List AD → List Int32 → List (List Nat × Int32) → List (List Nat × Int32)
  | [], _, e => e
  | a :: L, v, e => rAr L v.tail ((nmT t a.1 a.2.1, rH v) :: e)
def rBd (f : Nat) : Tr := match D[f]? with
  | some q => q.2.2.2.2
  | none => .leaf
def rAg (f : Nat) : List AD := match D[f]? with
  | some q => q.2.1
  | none => []
/-- so many CALLS within one another are left -/
def rCl : Nat → Nat → List Int32 → rwS → rR
  | 0, _, _, s => (s, .error 3)
  | k + 1, f, v, s => if s.2.1 < 5000 then evT t D (rCl k) (rBd D f) none (rAr t (rAg D f) v []) (s.1, s.2.1 + 1, max s.2.2 (60 - k)) else (s, .error 4)
/-- the RUN of FUNCTION f -/
def rRun (f : Nat) (v : List Int32) : rR := rCl t D 60 f v ([], 0, 0)
end EV
section EVE
variable {t : Nat → UInt8} {D : List FD} {C : Nat → List Int32 → rwS → rR} {a b c d : Nat} {l r : Tr} {w : Option (Int32 × Int32)} {e : List (List Nat × Int32)} {s : rwS} {q : Int32 × Int32}
theorem ev_0 : evT t D C (nd 0 a b c d l r) w e s = (s, .ok [nI a]) := rfl
theorem ev_1 : evT t D C (nd 1 a b c d l r) w e s = rwB (evT t D C l none e s) fun s v => (s, .ok [if a % 2 = 1 then -(rH v) else rH v]) := rfl
theorem ev_2 : evT t D C (nd 2 a b c d l r) w e s = (s, .ok [rL e (nmT t a b)]) := rfl
theorem ev_3 : evT t D C (nd 3 a b c d l r) w e s = rwB (evT t D C l none e s) fun s v => C ((fnI t D (nmT t a b) 0).getD 0) v s := rfl
theorem ev_4 : evT t D C (nd 4 a b c d l r) w e s = (s, .ok [nI ((fnI t D (nmT t a b) 0).getD 0)]) := rfl
theorem ev_5 : evT t D C (nd 5 a b c d l r) w e s = (s, .ok [0]) := rfl
theorem ev_6 : evT t D C (nd 6 a b c d l r) w e s = rwB (evT t D C l none e s) fun s v => rwB (evT t D C r none e s) fun s u => rCons (rH v) (rH u) s := rfl
theorem ev_7 : evT t D C (nd 7 a b c d l r) w e s = rwB (evT t D C l none e s) fun s v => rwB (evT t D C r none e s) fun s u => C (rH v).toNatClampNeg u s := rfl
theorem ev_8 : evT t D C (nd 8 a b c d l r) w e s = rwB (evT t D C l none e s) fun s v => evT t D C r none ((nmT t a b, rH v) :: e) s := rfl
theorem ev_9 : evT t D C (nd 9 a b c d l r) w e s = rwB (evT t D C l none e s) fun s v => evT t D C r (if rH v = 0 then some (0, 0) else none) e s := rfl
theorem ev_10 : evT t D C (nd 10 a b c d l r) w e s = rwB (evT t D C l none e s) fun s v => evT t D C r (rPr (rH v) s) e s := rfl
theorem ev_11 : evT t D C (nd 11 a b c d l r) w e s = rwB (evT t D C l none e s) fun s v => rwB (evT t D C r none e s) fun s u => (s, rO2 a (rH v) (rH u)) := rfl
theorem ev_12 : evT t D C (nd 12 a b c d l r) w e s = rwB (evT t D C l none e s) fun s v => rwB (evT t D C r none e s) fun s u => (s, rO2 a (rH v) (rH u)) := rfl
theorem ev_20n : evT t D C (nd 20 a b c d l r) none e s = evT t D C l none e s := rfl
theorem ev_20s : evT t D C (nd 20 a b c d l r) (some q) e s = evT t D C r none e s := rfl
theorem ev_21 : evT t D C (nd 21 a b c d l r) w e s = rwB (evT t D C l none e s) fun s v => rwB (evT t D C r none e s) fun s u => (s, .ok (rH v :: u)) := rfl
theorem ev_22n : evT t D C (nd 22 a b c d l r) none e s = evT t D C l none e s := rfl
theorem ev_22s : evT t D C (nd 22 a b c d l r) (some q) e s = evT t D C r none ((nmT t c d, q.2) :: (nmT t a b, q.1) :: e) s := rfl
theorem rB_o {v : List Int32} {k : rwS → List Int32 → rR} : rwB (s, .ok v) k = k s v := rfl
theorem rB_e {x : Nat} {k : rwS → List Int32 → rR} : rwB (s, .error x) k = (s, .error x) := rfl
end EVE
