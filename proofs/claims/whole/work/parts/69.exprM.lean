/-! CODES: the reference's tables of where parts end -/
def posOf (C : List In) (x : Nat) : Nat := ((C[x]?).map fun i => i.1).getD 0
theorem posOf_get {C : List In} {x : Nat} {i : In} (h : C[x]? = some i) : posOf C x = i.1 := by unfold posOf; rw [h]; rfl
theorem posOf_app {C D : List In} {x : Nat} (h : x < C.length) : posOf (C ++ D) x = posOf C x := by unfold posOf; rw [List.getElem?_append_left h]
theorem posOf_len (C : List In) (i : In) : posOf (C ++ [i]) C.length = i.1 := posOf_get (by simp)
/-- the places rise, and the text tells the ops -/
def posI (t : Nat → UInt8) (C : List In) (p : Nat) : Prop := (∀ (k : Nat) (i : In), C[k]? = some i → i.1 < p ∧ iOp i = (t i.1).toNat) ∧ ∀ (k1 k2 : Nat) (i1 i2 : In), k1 < k2 → C[k1]? = some i1 → C[k2]? = some i2 → i1.1 < i2.1
theorem posI.snoc {t : Nat → UInt8} {e p q : Nat} {C : List In} {i : In} (h : posI t C p) (hi : pI t e C p = .inl (i, q)) : posI t (C ++ [i]) q := by
  obtain ⟨h1, h2, h3, -⟩ := pI_l hi
  refine ⟨fun k j hj => ?_, fun k1 k2 i1 i2 hk h4 h5 => ?_⟩
  · rcases get_snoc hj with ⟨hj, hk⟩ | ⟨rfl, rfl⟩
    · have := h.1 k j hj
      exact ⟨by omega, this.2⟩
    · exact ⟨by omega, by rw [h1]; exact h2⟩
  · rcases get_snoc h5 with ⟨h5, hk2⟩ | ⟨rfl, rfl⟩
    · rcases get_snoc h4 with ⟨h4, hk1⟩ | ⟨rfl, rfl⟩
      · exact h.2 k1 k2 i1 i2 hk h4 h5
      · omega
    · rcases get_snoc h4 with ⟨h4, hk1⟩ | ⟨rfl, rfl⟩
      · rw [h1]
        exact (h.1 k1 i1 h4).1
      · omega
theorem posI.ne {t : Nat → UInt8} {p : Nat} {C : List In} (h : posI t C p) {a c : Nat} (ha : a < C.length) (hc : c < C.length) (hne : a ≠ c) : posOf C a ≠ posOf C c := by
  have ga := List.getElem?_eq_getElem ha
  have gc := List.getElem?_eq_getElem hc
  rw [posOf_get ga, posOf_get gc]
  rcases Nat.lt_or_gt_of_ne hne with z | z
  · exact Nat.ne_of_lt (h.2 _ _ _ _ z ga gc)
  · exact Nat.ne_of_gt (h.2 _ _ _ _ z gc ga)
theorem posI.lt {t : Nat → UInt8} {p : Nat} {C : List In} (h : posI t C p) {a : Nat} (ha : a < C.length) : posOf C a < p := by
  have ga := List.getElem?_eq_getElem ha
  rw [posOf_get ga]
  exact (h.1 _ _ ga).1
theorem sk_memO {C : List In} {n : Nat} : ∀ {m : Nat}, n ≤ m → ∀ {o x : Nat}, (o, x) ∈ sk C m → n ≤ o ∨ ∃ y, (o, y) ∈ sk C n
  | 0, h, o, x, hx => by
    have : n = 0 := by omega
    subst this
    exact Or.inr ⟨x, hx⟩
  | m + 1, h, o, x, hx => by
    by_cases hn : n = m + 1
    · subst hn
      exact Or.inr ⟨x, hx⟩
    · have ih := fun {o x} => sk_memO (C := C) (n := n) (m := m) (by omega) (o := o) (x := x)
      rw [sk] at hx
      split at hx
      next i hi =>
        unfold skS at hx
        split at hx
        · exact ih (List.mem_of_mem_tail hx)
        · split at hx
          · split at hx
            next o2 x2 r hs =>
              rcases List.mem_cons.mp hx with he | hx
              · cases he
                exact ih (by rw [hs]; exact List.mem_cons_self)
              · exact ih (by rw [hs]; exact List.mem_cons_of_mem _ hx)
            · cases hx
          · split at hx
            · rcases List.mem_cons.mp hx with he | hx
              · cases he
                exact Or.inl (by omega)
              · exact ih hx
            · exact ih hx
      · exact ih hx
theorem sk_goneO {C : List In} {n : Nat} {i : In} {o x : Nat} {r : List (Nat × Nat)} (hi : C[n]? = some i) (hop : iOp i = 11) (hs : sk C n = (o, x) :: r) {m : Nat} (hm : n < m) {o2 x2 : Nat} (h2 : (o2, x2) ∈ sk C m) : o2 ≠ o := by
  have hO := sk_O C n
  rw [hs] at hO
  have h1 := hO.1
  have h3 := hO.2.1
  rcases sk_memO (n := n + 1) hm h2 with h | ⟨y, h⟩
  · omega
  · rw [sk_succ hi, hs] at h
    unfold skS at h
    rw [if_pos hop] at h
    have := skO_lt hO.2.2 h
    omega
theorem sk_kind {C : List In} : ∀ {n : Nat}, n ≤ C.length → ∀ {o x : Nat}, (o, x) ∈ sk C n → (∃ j, C[o]? = some j ∧ 2 ≤ iOp j ∧ iOp j ≤ 4) ∧ (x = o ∨ ∃ j, C[x]? = some j ∧ iOp j = 5)
  | 0, _, o, x, hx => by cases hx
  | n + 1, h, o, x, hx => by
    have ih := fun {o x} => sk_kind (C := C) (n := n) (by omega) (o := o) (x := x)
    rw [sk] at hx
    split at hx
    next i hi =>
      unfold skS at hx
      split at hx
      · exact ih (List.mem_of_mem_tail hx)
      · split at hx
        next h5 =>
          split at hx
          next o2 x2 r hs =>
            rcases List.mem_cons.mp hx with he | hx
            · cases he
              exact ⟨(ih (by rw [hs]; exact List.mem_cons_self)).1, Or.inr ⟨i, hi, h5⟩⟩
            · exact ih (by rw [hs]; exact List.mem_cons_of_mem _ hx)
          · cases hx
        · split at hx
          next h24 =>
            rcases List.mem_cons.mp hx with he | hx
            · cases he
              exact ⟨⟨i, hi, h24⟩, Or.inl rfl⟩
            · exact ih hx
          · exact ih hx
    · exact ih hx
def eV (C : List In) (o x : Nat) : Int32 := if x = o then -1 else nI (posOf C x)
def RCd (C : List In) (b : Nat) (σ : fkS) : Prop := ∀ k i o x r, C[k]? = some i → iOp i = 11 → sk C k = (o, x) :: r → σ.1 138 (4000 * b + posOf C o) = nI i.1 ∧ σ.1 137 (4000 * b + posOf C o) = eV C o x
def RCo (C : List In) (b : Nat) (σ : fkS) : Prop := ∀ o x, (o, x) ∈ sk C C.length → σ.1 137 (4000 * b + posOf C o) = eV C o x
def RCp (C : List In) (σ : fkS) : Prop := ∀ k a, (sk C C.length).reverse[k]? = some a → σ.1 139 k = nI (posOf C a.1)
theorem eV_app {C D : List In} {o x : Nat} (h : x < C.length) : eV (C ++ D) o x = eV C o x := by
  unfold eV
  rw [posOf_app h]
theorem RCd.snoc {t : Nat → UInt8} {p b : Nat} {C : List In} {i : In} {σ σ' : fkS} (h : RCd C b σ) (_hp : posI t C p)
    (h8 : ∀ k j o x r, C[k]? = some j → iOp j = 11 → sk C k = (o, x) :: r → σ'.1 138 (4000 * b + posOf C o) = σ.1 138 (4000 * b + posOf C o) ∧ σ'.1 137 (4000 * b + posOf C o) = σ.1 137 (4000 * b + posOf C o))
    (hn : iOp i = 11 → ∀ o x r, sk C C.length = (o, x) :: r → σ'.1 138 (4000 * b + posOf C o) = nI i.1 ∧ σ'.1 137 (4000 * b + posOf C o) = eV C o x) : RCd (C ++ [i]) b σ' := by
  intro k j o x r hj hop hs
  have hO := sk_O (C ++ [i]) k
  rw [hs] at hO
  have hx1 := hO.1
  have hx2 := hO.2.1
  rcases get_snoc hj with ⟨hj, hk⟩ | ⟨rfl, rfl⟩
  · rw [sk_app (by omega)] at hs
    rw [posOf_app (by omega), eV_app (by omega)]
    obtain ⟨a1, a2⟩ := h8 k j o x r hj hop hs
    obtain ⟨b1, b2⟩ := h k j o x r hj hop hs
    exact ⟨a1.trans b1, a2.trans b2⟩
  · rw [sk_app (Nat.le_refl _)] at hs
    rw [posOf_app (by omega), eV_app (by omega)]
    exact hn hop o x r hs
def sXE (b c j : Nat) : Bool := fM c j || Nat.beq c 139 || (Nat.beq c 137 && bk 4000 b j) || (Nat.beq c 138 && bk 4000 b j)
theorem Fr.fXE {b : Nat} {σ σ' : fkS} (h : Fr fM σ σ') : Fr (sXE b) σ σ' := h.mono fun c j h => by unfold sXE; rw [h]; rfl
theorem sXE7 {b j : Nat} (hj : j < 4000) : sXE b 137 (4000 * b + j) = true := by unfold sXE; rw [bk_in hj]; simp
theorem sXE8 {b j : Nat} (hj : j < 4000) : sXE b 138 (4000 * b + j) = true := by unfold sXE; rw [bk_in hj]; simp
theorem sXE9 {b j : Nat} : sXE b 139 j = true := by unfold sXE; simp
