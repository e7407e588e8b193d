/-! CODES: an INSTRUCTION as both sides have it (its place, its first byte, a number, a small number, labels); what stands open -/
abbrev In : Type := Nat × Nat × Int64 × Nat × List Nat
def iOp (i : In) : Nat := i.2.1
def iA (i : In) : Int64 := i.2.2.1
def iS (i : In) : Nat := i.2.2.2.1
def iL (i : In) : List Nat := i.2.2.2.2
/-- what stands open behind an INSTRUCTION: where it began, and where its part began -/
def skS (s : List (Nat × Nat)) (n op : Nat) : List (Nat × Nat) := if op = 11 then s.tail else if op = 5 then (match s with
    | (o, _) :: r => (o, n) :: r
    | [] => []) else if 2 ≤ op ∧ op ≤ 4 then (n, n) :: s else s
def sk (C : List In) : Nat → List (Nat × Nat)
  | 0 => []
  | n + 1 => match C[n]? with
    | some i => skS (sk C n) n (iOp i)
    | none => sk C n
theorem sk_succ {C : List In} {n : Nat} {i : In} (h : C[n]? = some i) : sk C (n + 1) = skS (sk C n) n (iOp i) := by
  rw [sk, h]
theorem sk_app {C D : List In} : ∀ {n : Nat}, n ≤ C.length → sk (C ++ D) n = sk C n
  | 0, _ => rfl
  | n + 1, h => by
    rw [sk, sk, sk_app (n := n) (by omega), List.getElem?_append_left (by omega)]
/-- what stands open is told from the inside out, each further out began earlier -/
def skO : Nat → List (Nat × Nat) → Prop
  | _, [] => True
  | n, (o, x) :: r => o ≤ x ∧ x < n ∧ skO o r
theorem skO.mono {n m : Nat} {s : List (Nat × Nat)} (h : skO n s) (hm : n ≤ m) : skO m s := by
  cases s with
  | nil => trivial
  | cons a r =>
    obtain ⟨o, x⟩ := a
    exact ⟨h.1, Nat.lt_of_lt_of_le h.2.1 hm, h.2.2⟩
theorem skO_S {n op : Nat} {s : List (Nat × Nat)} (h : skO n s) : skO (n + 1) (skS s n op) := by
  unfold skS
  split
  · cases s with
    | nil => trivial
    | cons a r =>
      obtain ⟨o, x⟩ := a
      have h1 := h.1
      have h2 := h.2.1
      exact h.2.2.mono (by omega)
  · split
    · cases s with
      | nil => trivial
      | cons a r =>
        obtain ⟨o, x⟩ := a
        have h1 := h.1
        have h2 := h.2.1
        exact ⟨by omega, by omega, h.2.2⟩
    · split
      · exact ⟨Nat.le_refl _, by omega, h⟩
      · exact h.mono (by omega)
theorem sk_O (C : List In) : ∀ n, skO n (sk C n)
  | 0 => trivial
  | n + 1 => by
    rw [sk]
    split
    · exact skO_S (sk_O C n)
    · exact (sk_O C n).mono (by omega)
theorem skO_lt : ∀ {n : Nat} {s : List (Nat × Nat)} {o x : Nat}, skO n s → (o, x) ∈ s → o ≤ x ∧ x < n
  | n, [], o, x, h, hm => by cases hm
  | n, (a, b) :: r, o, x, h, hm => by
    rcases List.mem_cons.mp hm with he | hm
    · cases he
      exact ⟨h.1, h.2.1⟩
    · have := skO_lt h.2.2 hm
      have h1 := h.1
      have h2 := h.2.1
      omega
/-- what stood open is what it was, or began since -/
theorem sk_mem {C : List In} {n : Nat} : ∀ {m : Nat}, n ≤ m → ∀ {o x : Nat}, (o, x) ∈ sk C m → n ≤ x ∨ (o, x) ∈ sk C n
  | 0, h, o, x, hx => by
    have : n = 0 := by omega
    subst this
    exact Or.inr hx
  | m + 1, h, o, x, hx => by
    by_cases hn : n = m + 1
    · subst hn
      exact Or.inr hx
    · have ih := fun {o x} => sk_mem (C := C) (n := n) (m := m) (by omega) (o := o) (x := x)
      rw [sk] at hx
      split at hx
      next i hi =>
        unfold skS at hx
        split at hx
        · exact ih (List.mem_of_mem_tail hx)
        · split at hx
          · split at hx
            next o2 x2 r hs =>
              rcases List.mem_cons.mp hx with he | hx
              · cases he
                exact Or.inl (by omega)
              · exact ih (by rw [hs]; exact List.mem_cons_of_mem _ hx)
            · cases hx
          · split at hx
            · rcases List.mem_cons.mp hx with he | hx
              · cases he
                exact Or.inl (by omega)
              · exact ih hx
            · exact ih hx
      · exact ih hx
/-- a part that has ended stands open no more -/
theorem sk_gone {C : List In} {n : Nat} {i : In} {o x : Nat} {r : List (Nat × Nat)} (hi : C[n]? = some i) (hop : iOp i = 5 ∨ iOp i = 11) (hs : sk C n = (o, x) :: r) {m : Nat} (hm : n < m) {o2 x2 : Nat} (h2 : (o2, x2) ∈ sk C m) : x2 ≠ x := by
  have hO := sk_O C n
  rw [hs] at hO
  rcases sk_mem (n := n + 1) hm h2 with h | h
  · have := hO.2.1
    omega
  · rw [sk_succ hi, hs] at h
    rcases hop with h5 | h11
    · unfold skS at h
      rw [if_neg (by omega), if_pos h5] at h
      rcases List.mem_cons.mp h with he | h
      · cases he
        have := hO.2.1
        omega
      · have := skO_lt hO.2.2 h
        have := hO.1
        omega
    · unfold skS at h
      rw [if_pos h11] at h
      have := skO_lt hO.2.2 h
      have := hO.1
      omega
/-! labels -/
def lbs (C : List In) : List Nat := C.flatMap iL
def lbB (C : List In) (i : Nat) : Nat := (lbs (C.take i)).length
theorem lbs_snoc (C : List In) (x : In) : lbs (C ++ [x]) = lbs C ++ iL x := by
  unfold lbs
  simp
theorem lbB_snoc {C : List In} {x : In} {k : Nat} (hk : k ≤ C.length) : lbB (C ++ [x]) k = lbB C k := by
  unfold lbB
  rw [List.take_append_of_le_length hk]
theorem lbB_len (C : List In) : lbB C C.length = (lbs C).length := by
  unfold lbB
  rw [List.take_length]
/-! the class's rows of INSTRUCTIONS -/
def isBr (op : Nat) : Prop := op = 12 ∨ op = 13 ∨ op = 14
def iFirst (C : List In) (k : Nat) (i : In) : Int64 := if iOp i = 12 ∨ iOp i = 13 ∨ iOp i = 14 then lN (lbB C k) else iA i
def rowI (C : List In) (σ : fkS) (k : Nat) (i : In) : Prop := σ.1 41 k = nI (iOp i) ∧ σ.2.1 42 k = iFirst C k i ∧ (¬ (2 ≤ iOp i ∧ iOp i ≤ 5) → σ.1 43 k = nI (iS i))
def rSec (C : List In) (σ : fkS) : Prop := ∀ k i o x r, C[k]? = some i → (iOp i = 5 ∨ iOp i = 11) → sk C k = (o, x) :: r → σ.1 43 x = nI k
def rOpen (s : List (Nat × Nat)) (σ : fkS) : Prop := σ.1 48 1 = nI s.length ∧ ∀ k a, s.reverse[k]? = some a → σ.1 49 k = nI a.2
def DC (C : List In) (σ : fkS) : Prop := σ.1 36 5 = nI C.length ∧ σ.1 36 9 = nI (lbs C).length ∧ (∀ k i, C[k]? = some i → rowI C σ k i) ∧ (∀ j B, (lbs C)[j]? = some B → σ.1 44 (3 * j) = nI B) ∧ rSec C σ ∧ rOpen (sk C C.length) σ
theorem DC.snoc {C : List In} {σ σ' : fkS} {i : In} (h : DC C σ) (h5 : σ'.1 36 5 = nI (C.length + 1)) (h9 : σ'.1 36 9 = nI ((lbs C).length + (iL i).length))
    (h41 : ∀ k, σ'.1 41 k = if k = C.length then nI (iOp i) else σ.1 41 k) (h42 : ∀ k, σ'.2.1 42 k = if k = C.length then iFirst C C.length i else σ.2.1 42 k)
    (h43 : ∀ k, k < C.length → (∀ o x r, (iOp i = 5 ∨ iOp i = 11) → sk C C.length = (o, x) :: r → k ≠ x) → σ'.1 43 k = σ.1 43 k) (h43n : ¬ (2 ≤ iOp i ∧ iOp i ≤ 5) → σ'.1 43 C.length = nI (iS i))
    (h43x : ∀ o x r, (iOp i = 5 ∨ iOp i = 11) → sk C C.length = (o, x) :: r → σ'.1 43 x = nI C.length)
    (h44 : ∀ j, j < (lbs C).length → σ'.1 44 (3 * j) = σ.1 44 (3 * j)) (h44n : ∀ j B, (iL i)[j]? = some B → σ'.1 44 (3 * ((lbs C).length + j)) = nI B)
    (hX : ∀ k j, C[k]? = some j → (iOp i = 5 ∨ iOp i = 11) → ∀ o x r, sk C C.length = (o, x) :: r → k = x → 2 ≤ iOp j ∧ iOp j ≤ 5)
    (ho : rOpen (skS (sk C C.length) C.length (iOp i)) σ') : DC (C ++ [i]) σ' := by
  obtain ⟨a5, a9, aR, aL, aS, aO⟩ := h
  have hsk : sk (C ++ [i]) (C ++ [i]).length = skS (sk C C.length) C.length (iOp i) := by
    rw [List.length_append]
    show sk (C ++ [i]) (C.length + 1) = _
    rw [sk_succ (i := i) (by simp), sk_app (Nat.le_refl _)]
  refine ⟨?_, ?_, fun k j hj => ?_, fun j B hB => ?_, fun k j o x r hj hop hs => ?_, ?_⟩
  · rw [h5, List.length_append]
    rfl
  · rw [h9, lbs_snoc, List.length_append]
  · rcases get_snoc hj with ⟨hj, hk⟩ | ⟨rfl, rfl⟩
    · obtain ⟨b1, b2, b3⟩ := aR k j hj
      refine ⟨?_, ?_, fun hn => ?_⟩
      · rw [h41, if_neg (by omega)]
        exact b1
      · rw [h42, if_neg (by omega), b2]
        unfold iFirst
        rw [lbB_snoc (by omega)]
      · rw [h43 k hk fun o x r hop hs hkx => hn (hX k j hj hop o x r hs hkx)]
        exact b3 hn
    · refine ⟨by rw [h41, if_pos rfl], ?_, h43n⟩
      rw [h42, if_pos rfl]
      unfold iFirst
      rw [lbB_snoc (Nat.le_refl _)]
  · rw [lbs_snoc] at hB
    by_cases hj : j < (lbs C).length
    · rw [List.getElem?_append_left hj] at hB
      rw [h44 j hj]
      exact aL j B hB
    · rw [List.getElem?_append_right (by omega)] at hB
      have := h44n _ B hB
      rw [show (lbs C).length + (j - (lbs C).length) = j by omega] at this
      exact this
  · rcases get_snoc hj with ⟨hj, hk⟩ | ⟨rfl, rfl⟩
    · rw [sk_app (by omega)] at hs
      have h1 := aS k j o x r hj hop hs
      have hx : x < k := by
        have := sk_O C k
        rw [hs] at this
        exact this.2.1
      rw [h43 x (by omega) fun o2 x2 r2 hop2 hs2 hxx => ?_]
      · exact h1
      · refine sk_gone hj hop hs hk (o2 := o2) (x2 := x2) ?_ hxx.symm
        rw [hs2]
        exact List.mem_cons_self
    · rw [sk_app (Nat.le_refl _)] at hs
      exact h43x o x r hop hs
  · rw [hsk]
    exact ho
