/-! RUNNING, in the middle: numbers -/
def lo32 (v : Int64) : Nat := v.toBitVec.toNat % 2 ^ 32
def hi64 (v : Int64) : Nat := v.toBitVec.toNat
def ultL (a b : Int64) : Bool := decide (hi64 a < hi64 b)
/-- comparisons, from eq on -/
def cmpK (k : Nat) (a b : Int64) : Bool := if k = 1 then decide (a = b) else if k = 2 then !decide (a = b) else if k = 3 then decide (a < b) else if k = 4 then ultL a b else if k = 5 then decide (b < a) else if k = 6 then ultL b a else if k = 7 then decide (a ≤ b) else if k = 8 then !ultL b a else if k = 9 then decide (b ≤ a) else !ultL a b
/-- ones, leading zeros, trailing zeros -/
def pcN : Nat → Nat → Nat
  | 0, _ => 0
  | w + 1, x => pcN w x + (if x.testBit w then 1 else 0)
def czN : Nat → Nat → Nat
  | 0, _ => 0
  | w + 1, x => if x.testBit w then 0 else czN w x + 1
def tzN : Nat → Nat → Nat → Nat
  | 0, _, _ => 0
  | r + 1, j, x => if x.testBit j then 0 else tzN r (j + 1) x + 1
def b2l (b : Bool) : Int64 := cond b 1 0
def bitsN (k w x : Nat) : Nat := if k = 0 then czN w x else if k = 1 then tzN w 0 x else pcN w x
def xU (op : Nat) (v : Int64) : Int64 := if op = 69 ∨ op = 80 then b2l (decide (v = 0)) else if op ≤ 105 then lN (bitsN (op - 103) 32 (lo32 v)) else if op ≤ 123 then lN (bitsN (op - 121) 64 (hi64 v)) else if op = 167 then v.toInt32.toInt64 else if op = 173 then lN (lo32 v) else v
def i32B (k : Nat) (x y : Int32) : Nat × Int32 :=
  if k = 3 then (0, x + y) else if k = 4 then (0, x - y) else if k = 5 then (0, x * y)
  else if k ≤ 9 then (if y = 0 then (2, 0) else if k = 6 ∧ x = Int32.ofNat 2147483648 ∧ y = -1 then (3, 0)
    else (0, if k = 6 then x / y else if k = 7 then ⟨⟨x.toBitVec / y.toBitVec⟩⟩ else if k = 8 then (if y = -1 then 0 else x - x / y * y) else ⟨⟨x.toBitVec % y.toBitVec⟩⟩))
  else (0, if k = 10 then x &&& y else if k = 11 then x ||| y else if k = 12 then x ^^^ y else if k = 13 then ⟨⟨x.toBitVec <<< (y.toBitVec.toNat % 32)⟩⟩ else if k = 14 then ⟨⟨x.toBitVec.sshiftRight (y.toBitVec.toNat % 32)⟩⟩ else if k = 15 then ⟨⟨x.toBitVec >>> (y.toBitVec.toNat % 32)⟩⟩ else if k = 16 then ⟨⟨x.toBitVec.rotateLeft (y.toBitVec.toNat % 32)⟩⟩ else ⟨⟨x.toBitVec.rotateRight (y.toBitVec.toNat % 32)⟩⟩)
def i64B (k : Nat) (x y : Int64) : Nat × Int64 :=
  if k = 3 then (0, x + y) else if k = 4 then (0, x - y) else if k = 5 then (0, x * y)
  else if k ≤ 9 then (if y = 0 then (2, 0) else if k = 6 ∧ x = Int64.ofNat 9223372036854775808 ∧ y = -1 then (3, 0)
    else (0, if k = 6 then x / y else if k = 7 then ⟨⟨x.toBitVec / y.toBitVec⟩⟩ else if k = 8 then (if y = -1 then 0 else x - x / y * y) else ⟨⟨x.toBitVec % y.toBitVec⟩⟩))
  else (0, if k = 10 then x &&& y else if k = 11 then x ||| y else if k = 12 then x ^^^ y else if k = 13 then ⟨⟨x.toBitVec <<< (y.toBitVec.toNat % 64)⟩⟩ else if k = 14 then ⟨⟨x.toBitVec.sshiftRight (y.toBitVec.toNat % 64)⟩⟩ else if k = 15 then ⟨⟨x.toBitVec >>> (y.toBitVec.toNat % 64)⟩⟩ else if k = 16 then ⟨⟨x.toBitVec.rotateLeft (y.toBitVec.toNat % 64)⟩⟩ else ⟨⟨x.toBitVec.rotateRight (y.toBitVec.toNat % 64)⟩⟩)
def xB (op : Nat) (a b : Int64) : Nat × Int64 := if op ≤ 79 then (0, b2l (cmpK (op - 69) a b)) else if op ≤ 90 then (0, b2l (cmpK (op - 80) a b)) else if op ≤ 120 then ((i32B (op - 103) a.toInt32 b.toInt32).1, (i32B (op - 103) a.toInt32 b.toInt32).2.toInt64) else i64B (op - 121) a b
def isUn (op : Nat) : Prop := op = 69 ∨ op = 80 ∨ (103 ≤ op ∧ op ≤ 105) ∨ (121 ≤ op ∧ op ≤ 123) ∨ op = 167 ∨ op = 172 ∨ op = 173
/-! memory -/
abbrev Env : Type := (Nat → Int64) × (Nat → UInt8) × Nat
def eG (e : Env) : Nat → Int64 := e.1
def eM (e : Env) : Nat → UInt8 := e.2.1
def eP (e : Env) : Nat := e.2.2
/-- w bytes from the last to the first -/
def ldA (mm : Nat → UInt8) (fr w : Nat) : Nat → Int64
  | 0 => 0
  | r + 1 => fk_lshl (ldA mm fr w r) (8 : Int32) ||| (bI (mm (fr + (w - 1 - r)))).toInt64
def ldSg (op : Nat) : Bool := decide (op = 40) || (decide (44 ≤ op) && decide (op % 2 = 0))
def ldV (op : Nat) (mm : Nat → UInt8) (fr : Nat) : Int64 := if ldSg op = true then fk_lshr (fk_lshl (ldA mm fr (wid op) (wid op)) (nI (64 - 8 * wid op))) (nI (64 - 8 * wid op)) else ldA mm fr (wid op) (wid op)
def stM (mm : Nat → UInt8) (fr w : Nat) (v : Int64) : Nat → UInt8 := fun i => if fr ≤ i ∧ i < fr + w then by8 v (i - fr) else mm i
def updG (g : Nat → Int64) (k : Nat) (v : Int64) : Nat → Int64 := fun j => if j = k then v else g j
/-- pages there may be -/
def mxP (m : Md) : Nat := ((liLast (mdM m)).2).getD 2
def inA (e : Env) (x : Int64) (off w : Nat) : Bool := decide (lo32 x + off + w ≤ 65536 * eP e)
def offI (I : In) : Nat := hi64 (iA I)
/-- an INSTRUCTION that only changes values: its TRAP, locals, operands (the top one first), the rest -/
def dop (m : Md) (I : In) (L S : List Int64) (e : Env) : Nat × List Int64 × List Int64 × Env :=
  if iOp I = 1 then (0, L, S, e)
  else if iOp I = 26 then (0, L, S.drop 1, e)
  else if iOp I = 27 then (match S with
    | c :: b :: a :: r => (0, L, (if c.toInt32 = 0 then b else a) :: r, e)
    | _ => (0, L, S, e))
  else if iOp I = 32 then (0, L, (L[iB I]?).getD 0 :: S, e)
  else if iOp I = 33 then (0, L.set (iB I) (S.headD 0), S.drop 1, e)
  else if iOp I = 34 then (0, L.set (iB I) (S.headD 0), S, e)
  else if iOp I = 35 then (0, L, eG e (iB I) :: S, e)
  else if iOp I = 36 then (0, L, S.drop 1, (updG (eG e) (iB I) (S.headD 0), eM e, eP e))
  else if iOp I ≤ 53 then (if inA e (S.headD 0) (offI I) (wid (iOp I)) = true then (0, L, ldV (iOp I) (eM e) (lo32 (S.headD 0) + offI I) :: S.drop 1, e) else (4, L, S, e))
  else if iOp I ≤ 62 then (if inA e ((S.drop 1).headD 0) (offI I) (wid (iOp I)) = true then (0, L, S.drop 2, (eG e, stM (eM e) (lo32 ((S.drop 1).headD 0) + offI I) (wid (iOp I)) (S.headD 0), eP e)) else (4, L, S, e))
  else if iOp I = 63 then (0, L, lN (eP e) :: S, e)
  else if iOp I = 64 then (if eP e + lo32 (S.headD 0) ≤ mxP m then (0, L, lN (eP e) :: S.drop 1, (eG e, eM e, eP e + lo32 (S.headD 0))) else (0, L, -1 :: S.drop 1, e))
  else if iOp I ≤ 66 then (0, L, iA I :: S, e)
  else if iOp I = 69 ∨ iOp I = 80 ∨ (103 ≤ iOp I ∧ iOp I ≤ 105) ∨ (121 ≤ iOp I ∧ iOp I ≤ 123) ∨ 167 ≤ iOp I then (0, L, xU (iOp I) (S.headD 0) :: S.drop 1, e)
  else ((xB (iOp I) ((S.drop 1).headD 0) (S.headD 0)).1, L, (xB (iOp I) ((S.drop 1).headD 0) (S.headD 0)).2 :: S.drop 2, e)
/-! RUNNING, in the middle: states. A CALL that is open: its function, the INSTRUCTION that comes, its locals, its operands (the top one first) -/
abbrev Fm : Type := Nat × Nat × List Int64 × List Int64
/-- CALLS, the innermost first; the run's own values; MEMORY and GLOBALS; STEPS taken; the TRAP; whether the STEPS are SPENT -/
abbrev St : Type := List Fm × List Int64 × Env × Nat × Nat × Bool
def sF (s : St) : List Fm := s.1
def sR2 (s : St) : List Int64 := s.2.1
def sE (s : St) : Env := s.2.2.1
def sK (s : St) : Nat := s.2.2.2.1
def sT (s : St) : Nat := s.2.2.2.2.1
def sS (s : St) : Bool := s.2.2.2.2.2
def stop (s : St) : Prop := sF s = [] ∨ sT s ≠ 0 ∨ sS s = true
def withF (s : St) (F : List Fm) : St := (F, sR2 s, sE s, sK s, sT s, sS s)
def withT (s : St) (tr : Nat) : St := (sF s, sR2 s, sE s, sK s, tr, sS s)
def gvF (m : Md) (f : Nat) : Nat := (tyAt m (fnTy m f)).2.2
/-- the innermost CALL ends -/
def aLv (m : Md) (s : St) : St := match sF s with
  | [] => s
  | (f, _, _, S) :: [] => ([], (if gvF m f = 0 then [] else S.take 1) ++ sR2 s, sE s, sK s, sT s, sS s)
  | (f, _, _, S) :: (f2, i2, L2, S2) :: fs => withF s ((f2, i2, L2, (if gvF m f = 0 then [] else S.take 1) ++ S2) :: fs)
def newF (m : Md) (g : Nat) (S : List Int64) : Fm := (g, fiS (fiAt m g), (S.take (tyAt m (fnTy m g)).2.1).reverse ++ List.replicate (fiAt m g).1.length 0, [])
/-- function g is CALLED -/
def aEn (m : Md) (g : Nat) (s : St) : St := if (sF s).length = 64 then withT s 8 else match sF s with
  | [] => ([newF m g (sR2 s)], (sR2 s).drop (tyAt m (fnTy m g)).2.1, sE s, sK s, sT s, sS s)
  | (f, i, L, S) :: fs => withF s (newF m g S :: (f, i, L, S.drop (tyAt m (fnTy m g)).2.1) :: fs)
/-- to a label -/
def aBr (m : Md) (J : JS) (lab : Nat) (s : St) : St := match sF s with
  | [] => s
  | (f, _, L, S) :: fs => match jBk J lab with
    | none => s
    | some b => match bkO b with
      | none => aLv m s
      | some o => withF s ((f, (if opC (mdC m).2 o = 3 then o + 1 else endI (mdC m).2 o + 1), L, (if bCar (mdC m).2 b = 0 then [] else S.take 1) ++ S.drop (S.length - bkF b)) :: fs)
def sameT (t : Nat → UInt8) (m : Md) (a b : Nat) : Bool := decide ((tyAt m a).2.1 = (tyAt m b).2.1) && decide ((tyAt m a).2.2 = (tyAt m b).2.2) && (List.range (tyAt m a).2.1).all fun k => decide (t ((tyAt m a).1 + k) = t ((tyAt m b).1 + k))
/-- the function at a place of the TABLE -/
def atTb (m : Md) (k : Nat) : Int32 := tbF (mdL m) k
/-- INSTRUCTION I at i does this, its STEP counted, the next one being i + 1 -/
def aX (t : Nat → UInt8) (m : Md) (J : JS) (i : Nat) (I : In) (s : St) : St := match sF s with
  | [] => s
  | (f, j, L, S) :: fs =>
    if iOp I = 0 then withT s 1
    else if iOp I = 2 ∨ iOp I = 3 then s
    else if iOp I = 4 then (if (S.headD 0).toInt32 = 0 then withF s ((f, nx (mdC m).2 i + 1, L, S.drop 1) :: fs) else withF s ((f, j, L, S.drop 1) :: fs))
    else if iOp I = 12 then aBr m J ((iL I).headD 0) s
    else if iOp I = 13 then (if (S.headD 0).toInt32 = 0 then withF s ((f, j, L, S.drop 1) :: fs) else aBr m (jPop 127 J).2 ((iL I).headD 0) (withF s ((f, j, L, S.drop 1) :: fs)))
    else if iOp I = 14 then aBr m (jPop 127 J).2 (((iL I)[min (lo32 (S.headD 0)) (iS I)]?).getD 0) (withF s ((f, j, L, S.drop 1) :: fs))
    else if iOp I = 15 then aLv m s
    else if iOp I = 16 then aEn m (iB I) s
    else if iOp I = 17 then (if tbN m ≤ lo32 (S.headD 0) then withT s 5 else if atTb m (lo32 (S.headD 0)) < 0 then withT s 6 else if sameT t m (iB I) (fnTy m (atTb m (lo32 (S.headD 0))).toNatClampNeg) = false then withT s 7 else aEn m (atTb m (lo32 (S.headD 0))).toNatClampNeg (withF s ((f, j, L, S.drop 1) :: fs)))
    else ((f, j, (dop m I L S (sE s)).2.1, (dop m I L S (sE s)).2.2.1) :: fs, sR2 s, (dop m I L S (sE s)).2.2.2, sK s, (dop m I L S (sE s)).1, sS s)
/-- what comes next -/
def aS (t : Nat → UInt8) (m : Md) (N : Nat) (s : St) : St := match sF s with
  | [] => s
  | (f, i, L, S) :: fs => if sT s ≠ 0 ∨ sS s = true then s else match (mdC m).2[i]? with
    | none => s
    | some I => if iOp I = 11 then (if sk (mdC m).2 i = [] then aLv m s else withF s ((f, i + 1, L, S) :: fs))
      else if iOp I = 5 then withF s ((f, nx (mdC m).2 i + 1, L, S) :: fs)
      else if sK s = N then (sF s, sR2 s, sE s, sK s, sT s, true)
      else aX t m (jAt t m f i) i I ((f, i + 1, L, S) :: fs, sR2 s, sE s, sK s + 1, sT s, sS s)
def aIt (t : Nat → UInt8) (m : Md) (N : Nat) : Nat → St → St
  | 0, s => s
  | r + 1, s => aIt t m N r (aS t m N s)
theorem aS_stop {t : Nat → UInt8} {m : Md} {N : Nat} {s : St} (h : stop s) : aS t m N s = s := by
  unfold aS
  split
  · rfl
  next f i L S fs hf =>
    rcases h with h | h | h
    · rw [h] at hf
      cases hf
    · rw [if_pos (.inl h)]
    · rw [if_pos (.inr h)]
theorem aIt_stop {t : Nat → UInt8} {m : Md} {N : Nat} : ∀ (r : Nat) {s : St}, stop s → aIt t m N r s = s
  | 0, _, _ => rfl
  | r + 1, s, h => by
    rw [aIt, aS_stop h]
    exact aIt_stop r h
theorem aIt_add {t : Nat → UInt8} {m : Md} {N : Nat} : ∀ (a b : Nat) (s : St), aIt t m N (a + b) s = aIt t m N b (aIt t m N a s)
  | 0, b, s => by rw [Nat.zero_add]; rfl
  | a + 1, b, s => by
    rw [show a + 1 + b = (a + b) + 1 by omega, aIt, aIt_add a b]
    rfl
/-- there is one end -/
theorem aIt_end {t : Nat → UInt8} {m : Md} {N a b : Nat} {s : St} (ha : stop (aIt t m N a s)) (hb : stop (aIt t m N b s)) : aIt t m N a s = aIt t m N b s := by
  rcases Nat.le_total a b with h | h
  · obtain ⟨c, rfl⟩ := Nat.exists_eq_add_of_le h
    rw [aIt_add, aIt_stop c ha]
  · obtain ⟨c, rfl⟩ := Nat.exists_eq_add_of_le h
    rw [aIt_add, aIt_stop c hb]
