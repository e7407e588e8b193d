/-! THE JUDGE OF A FUNCTION: its state, and its smallest steps; the class -/
abbrev Bk : Type := Option Nat × Nat × Nat × Bool
def bkO (b : Bk) : Option Nat := b.1
def bkF (b : Bk) : Nat := b.2.1
def bkG (b : Bk) : Nat := b.2.2.1
def bkD (b : Bk) : Bool := b.2.2.2
/-- types, the last on top; open blocks, the last innermost; whether all is well so far -/
abbrev JS : Type := List Nat × List Bk × Bool
def jT (J : JS) : List Nat := J.1
def jB (J : JS) : List Bk := J.2.1
def jG (J : JS) : Bool := J.2.2
def jTop (J : JS) : Option Bk := (jB J)[(jB J).length - 1]?
def jBad (J : JS) : JS := (jT J, jB J, false)
def jAnd (J : JS) (g : Bool) : JS := (jT J, jB J, jG J && g)
def jPush (ty : Nat) (J : JS) : JS := if (jT J).length < 4100 then (jT J ++ [ty], jB J, jG J) else J
def jVal (J : JS) : Nat := ((jT J)[(jT J).length - 1]?).getD 0
def jPop (due : Nat) (J : JS) : Nat × JS := match jTop J with
  | none => (due, jBad J)
  | some b => if bkF b < (jT J).length then (if jVal J = 0 then due else jVal J, ((jT J).take ((jT J).length - 1), jB J, jG J && (decide (jVal J = 0) || decide (due = 0) || decide (jVal J = due)))) else (due, jAnd J (bkD b))
def jOpen (o : Option Nat) (ty : Nat) (J : JS) : JS := if (jB J).length < 22 then (jT J, jB J ++ [(o, (jT J).length, ty, false)], jG J) else J
def jSetD (J : JS) (b : Bk) (v : Bool) : List Bk := (jB J).take ((jB J).length - 1) ++ [(bkO b, bkF b, bkG b, v)]
def jDead (J : JS) : JS := match jTop J with
  | none => J
  | some b => ((jT J).take (bkF b), jSetD J b true, jG J)
def jPopG (ty : Nat) (J : JS) : JS := if ty = 0 then J else (jPop ty J).2
def jPushG (ty : Nat) (J : JS) : JS := if ty = 0 then J else jPush ty J
def jPart (J : JS) : JS := match jTop J with
  | none => J
  | some b => jAnd (jPopG (bkG b) J) (decide ((jT (jPopG (bkG b) J)).length = bkF b))
def jok (J : JS) : Prop := (jT J).length ≤ 4100 ∧ (jB J).length ≤ 22 ∧ (∀ x ∈ jT J, x < 200) ∧ (∀ (k : Nat) (b : Bk), (jB J)[k]? = some b → bkF b ≤ (jT J).length ∧ bkG b < 200 ∧ ∀ o, bkO b = some o → o < 4000) ∧ ∀ (i j : Nat) (bi bj : Bk), i ≤ j → (jB J)[i]? = some bi → (jB J)[j]? = some bj → bkF bi ≤ bkF bj
def oI (o : Option Nat) : Int32 := match o with
  | some k => nI k
  | none => -1
def rB (b : Bk) (k : Nat) (σ : fkS) : Prop := σ.1 52 k = oI (bkO b) ∧ σ.1 53 k = nI (bkF b) ∧ σ.1 54 k = nI (bkG b) ∧ σ.1 55 k = b2i (bkD b)
def jA (J : JS) (σ : fkS) : Prop := σ.1 50 5 = nI (jT J).length ∧ (∀ (k x : Nat), (jT J)[k]? = some x → σ.1 51 k = nI x) ∧ σ.1 50 10 = nI (jB J).length ∧ (∀ (k : Nat) (b : Bk), (jB J)[k]? = some b → rB b k σ) ∧ σ.1 50 3 = b2i (jG J)
def rJ (J : JS) (σ : fkS) : Prop := jok J ∧ jA J σ
def sJg (c j : Nat) : Bool := (Nat.beq c 50 && (Nat.beq j 3 || Nat.beq j 5 || Nat.beq j 10)) || Nat.beq c 51 || Nat.beq c 52 || Nat.beq c 53 || Nat.beq c 54 || Nat.beq c 55
theorem get_take {α : Type} {l : List α} {n k : Nat} {x : α} (h : (l.take n)[k]? = some x) : l[k]? = some x ∧ k < n := by
  have hk := get_lt h
  rw [List.length_take] at hk
  rw [List.getElem?_take] at h
  split at h
  next z => exact ⟨h, z⟩
  · cases h
theorem top_get {J : JS} {b : Bk} (h : jTop J = some b) : ∃ L, (jB J).length = L + 1 ∧ (jB J)[L]? = some b := by
  unfold jTop at h
  cases hL : (jB J).length with
  | zero =>
    rw [hL] at h
    have := get_lt h
    omega
  | succ L =>
    rw [hL] at h
    exact ⟨L, rfl, h⟩
theorem top_none {J : JS} (h : jTop J = none) : (jB J).length = 0 := by
  unfold jTop at h
  have := List.getElem?_eq_none_iff.mp h
  omega
theorem jok.push {J : JS} {ty : Nat} (h : jok J) (ht : ty < 200) : jok (jPush ty J) := by
  unfold jPush
  split
  next hl =>
    obtain ⟨h1, h2, h3, h4, h5⟩ := h
    refine ⟨?_, h2, ?_, fun k b hb => ⟨?_, (h4 k b hb).2⟩, h5⟩
    · show (jT J ++ [ty]).length ≤ 4100
      rw [List.length_append]
      exact hl
    · intro x hx
      rcases List.mem_append.mp hx with z | z
      · exact h3 x z
      · rw [List.mem_singleton.mp z]
        exact ht
    · show bkF b ≤ (jT J ++ [ty]).length
      have := (h4 k b hb).1
      rw [List.length_append]
      omega
  · exact h
theorem jok.bad {J : JS} {g : Bool} (h : jok J) : jok (jT J, jB J, g) := h
theorem jok.pop {J : JS} {due : Nat} (h : jok J) : jok (jPop due J).2 := by
  unfold jPop
  split
  · exact h
  next b hb =>
    split
    next hl =>
      obtain ⟨L, hL, hb2⟩ := top_get hb
      obtain ⟨h1, h2, h3, h4, h5⟩ := h
      refine ⟨?_, h2, fun x hx => h3 x (List.mem_of_mem_take hx), fun k c hc => ⟨?_, (h4 k c hc).2⟩, h5⟩
      · show ((jT J).take ((jT J).length - 1)).length ≤ 4100
        rw [List.length_take]
        omega
      · show bkF c ≤ ((jT J).take ((jT J).length - 1)).length
        have hk := get_lt hc
        have := h5 k L c b (by show k ≤ L; have : k < (jB J).length := hk; omega) hc hb2
        rw [List.length_take]
        omega
    · exact h
theorem jok.popG {J : JS} {due : Nat} (h : jok J) : jok (jPopG due J) := by
  unfold jPopG
  split
  · exact h
  · exact h.pop
theorem jok.pushG {J : JS} {ty : Nat} (h : jok J) (ht : ty < 200) : jok (jPushG ty J) := by
  unfold jPushG
  split
  · exact h
  · exact h.push ht
theorem jok.opn {J : JS} {o : Option Nat} {ty : Nat} (h : jok J) (ht : ty < 200) (ho : ∀ k, o = some k → k < 4000) : jok (jOpen o ty J) := by
  unfold jOpen
  split
  next hl =>
    obtain ⟨h1, h2, h3, h4, h5⟩ := h
    refine ⟨h1, ?_, h3, fun k b hb => ?_, fun i j bi bj hij hi hj => ?_⟩
    · show (jB J ++ [_]).length ≤ 22
      rw [List.length_append]
      exact hl
    · rcases get_snoc hb with ⟨z, -⟩ | ⟨-, rfl⟩
      · exact h4 k b z
      · exact ⟨Nat.le_refl _, ht, ho⟩
    · rcases get_snoc hi with ⟨z, z2⟩ | ⟨z2, rfl⟩
      · rcases get_snoc hj with ⟨y, -⟩ | ⟨-, rfl⟩
        · exact h5 i j bi bj hij z y
        · exact (h4 i bi z).1
      · rcases get_snoc hj with ⟨-, y⟩ | ⟨-, rfl⟩
        · omega
        · exact Nat.le_refl _
  · exact h
theorem setD_get {J : JS} {b c : Bk} {v : Bool} {k : Nat} (hb : jTop J = some b) (h : (jSetD J b v)[k]? = some c) : ∃ c0, (jB J)[k]? = some c0 ∧ bkO c = bkO c0 ∧ bkF c = bkF c0 ∧ bkG c = bkG c0 ∧ (k + 1 = (jB J).length → bkD c = v ∧ c0 = b) ∧ (k + 1 ≠ (jB J).length → c = c0) := by
  obtain ⟨L, hL, hb2⟩ := top_get hb
  have hlen : ((jB J).take ((jB J).length - 1)).length = L := by
    rw [List.length_take]
    omega
  rcases get_snoc h with ⟨z, z2⟩ | ⟨z, rfl⟩
  · obtain ⟨a, a2⟩ := get_take z
    exact ⟨c, a, rfl, rfl, rfl, fun y => absurd y (by omega), fun _ => rfl⟩
  · rw [hlen] at z
    subst z
    exact ⟨b, hb2, rfl, rfl, rfl, fun _ => ⟨rfl, rfl⟩, fun y => absurd hL.symm y⟩
theorem setD_len {J : JS} {b : Bk} {v : Bool} (hb : jTop J = some b) : (jSetD J b v).length = (jB J).length := by
  obtain ⟨L, hL, hb2⟩ := top_get hb
  unfold jSetD
  rw [List.length_append, List.length_take, List.length_singleton]
  omega
theorem jok.dead {J : JS} (h : jok J) : jok (jDead J) := by
  unfold jDead
  split
  · exact h
  next b hb =>
    obtain ⟨L, hL, hb2⟩ := top_get hb
    obtain ⟨h1, h2, h3, h4, h5⟩ := h
    have hf := (h4 L b hb2).1
    refine ⟨?_, ?_, fun x hx => h3 x (List.mem_of_mem_take hx), fun k c hc => ?_, fun i j bi bj hij hi hj => ?_⟩
    · show ((jT J).take (bkF b)).length ≤ 4100
      rw [List.length_take]
      omega
    · show (jSetD J b true).length ≤ 22
      rw [setD_len hb]
      exact h2
    · obtain ⟨c0, a1, a2, a3, a4, -⟩ := setD_get hb hc
      have hk := get_lt a1
      have := h5 k L c0 b (by omega) a1 hb2
      rw [a2, a3, a4]
      refine ⟨?_, (h4 k c0 a1).2⟩
      show bkF c0 ≤ ((jT J).take (bkF b)).length
      rw [List.length_take]
      omega
    · obtain ⟨c0, a1, a2, a3, a4, -⟩ := setD_get hb hi
      obtain ⟨d0, b1, b2, b3, b4, -⟩ := setD_get hb hj
      rw [a3, b3]
      exact h5 i j c0 d0 hij a1 b1
theorem jok.part {J : JS} (h : jok J) : jok (jPart J) := by
  unfold jPart
  split
  · exact h
  · exact h.popG
