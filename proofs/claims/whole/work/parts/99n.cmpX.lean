/-! NUMBERS, the class: comparisons -/
theorem lg3 (a b : Int64) : (a < b ∧ lg_cmp a b = -1) ∨ (a = b ∧ lg_cmp a b = 0) ∨ (b < a ∧ lg_cmp a b = 1) := by
  unfold lg_cmp
  by_cases h : a > b
  · rw [if_pos h]
    exact .inr (.inr ⟨h, rfl⟩)
  rw [if_neg h]
  by_cases h2 : a = b
  · rw [if_pos h2]
    exact .inr (.inl ⟨h2, rfl⟩)
  rw [if_neg h2]
  refine .inl ⟨?_, rfl⟩
  rw [Int64.lt_iff_toInt_lt]
  have h : ¬ b.toInt < a.toInt := fun z => h (Int64.lt_iff_toInt_lt.mpr z)
  have h2 : ¬ a.toInt = b.toInt := fun z => h2 (Int64.toInt_inj.mp z)
  omega
theorem l_lt {a b : Int64} : a < b ↔ a.toInt < b.toInt := Int64.lt_iff_toInt_lt
theorem l_le {a b : Int64} : a ≤ b ↔ a.toInt ≤ b.toInt := Int64.le_iff_toInt_le
theorem lg_eq {a b : Int64} : lg_cmp a b = 0 ↔ a = b := by
  rcases lg3 a b with ⟨h, e⟩ | ⟨h, e⟩ | ⟨h, e⟩
  · rw [e]
    exact ⟨fun z => absurd z (by decide), fun z => by rw [z, l_lt] at h; omega⟩
  · rw [e]
    exact ⟨fun _ => h, fun _ => rfl⟩
  · rw [e]
    exact ⟨fun z => absurd z (by decide), fun z => by rw [z, l_lt] at h; omega⟩
theorem lg_lt {a b : Int64} : lg_cmp a b < 0 ↔ a < b := by
  rcases lg3 a b with ⟨h, e⟩ | ⟨h, e⟩ | ⟨h, e⟩
  · rw [e]
    exact ⟨fun _ => h, fun _ => by decide⟩
  · rw [e]
    exact ⟨fun z => absurd z (by decide), fun z => by rw [h, l_lt] at z; omega⟩
  · rw [e]
    exact ⟨fun z => absurd z (by decide), fun z => by rw [l_lt] at z h; omega⟩
theorem lg_le {a b : Int64} : lg_cmp a b ≤ 0 ↔ a ≤ b := by
  rcases lg3 a b with ⟨h, e⟩ | ⟨h, e⟩ | ⟨h, e⟩
  · rw [e]
    exact ⟨fun _ => by rw [l_lt] at h; rw [l_le]; omega, fun _ => by decide⟩
  · rw [e]
    exact ⟨fun _ => by rw [h, l_le]; omega, fun _ => by decide⟩
  · rw [e]
    exact ⟨fun z => absurd z (by decide), fun z => by rw [l_lt] at h; rw [l_le] at z; omega⟩
theorem lg_gt {a b : Int64} : 0 < lg_cmp a b ↔ b < a := by
  rcases lg3 a b with ⟨h, e⟩ | ⟨h, e⟩ | ⟨h, e⟩
  · rw [e]
    exact ⟨fun z => absurd z (by decide), fun z => by rw [l_lt] at z h; omega⟩
  · rw [e]
    exact ⟨fun z => absurd z (by decide), fun z => by rw [h, l_lt] at z; omega⟩
  · rw [e]
    exact ⟨fun _ => h, fun _ => by decide⟩
theorem lg_ge {a b : Int64} : 0 ≤ lg_cmp a b ↔ b ≤ a := by
  rcases lg3 a b with ⟨h, e⟩ | ⟨h, e⟩ | ⟨h, e⟩
  · rw [e]
    exact ⟨fun z => absurd z (by decide), fun z => by rw [l_lt] at h; rw [l_le] at z; omega⟩
  · rw [e]
    exact ⟨fun _ => by rw [h, l_le]; omega, fun _ => by decide⟩
  · rw [e]
    exact ⟨fun _ => by rw [l_lt] at h; rw [l_le]; omega, fun _ => by decide⟩
theorem hi_lt (a : Int64) : hi64 a < 2 ^ 64 := a.toBitVec.isLt
theorem hi_int (a : Int64) : a.toInt = if hi64 a < 2 ^ 63 then (hi64 a : Int) else (hi64 a : Int) - 2 ^ 64 := by
  show a.toBitVec.toInt = _
  rw [BitVec.toInt_eq_toNat_cond]
  show (if 2 * hi64 a < 2 ^ 64 then (hi64 a : Int) else (hi64 a : Int) - 2 ^ 64) = _
  by_cases h : hi64 a < 2 ^ 63
  · rw [if_pos h, if_pos (by omega)]
  · rw [if_neg h, if_neg (by omega)]
/-- unsigned -/
theorem flip_int (a : Int64) : (a + (Int64.ofNat 9223372036854775808)).toInt = (hi64 a : Int) - 2 ^ 63 := by
  have e : hi64 (a + (Int64.ofNat 9223372036854775808)) = (hi64 a + 2 ^ 63) % 2 ^ 64 := by
    show (a.toBitVec + BitVec.ofNat 64 9223372036854775808).toNat = _
    rw [BitVec.toNat_add]
    rfl
  have h := hi_lt a
  rw [hi_int, e]
  by_cases z : hi64 a < 2 ^ 63
  · have e2 : (hi64 a + 2 ^ 63) % 2 ^ 64 = hi64 a + 2 ^ 63 := Nat.mod_eq_of_lt (by omega)
    rw [e2, if_neg (by omega)]
    omega
  · have e2 : (hi64 a + 2 ^ 63) % 2 ^ 64 = hi64 a - 2 ^ 63 := by omega
    rw [e2, if_pos (by omega)]
    omega
theorem flip_lt {a b : Int64} : a + (Int64.ofNat 9223372036854775808) < b + (Int64.ofNat 9223372036854775808) ↔ hi64 a < hi64 b := by
  rw [l_lt, flip_int, flip_int]
  omega
theorem bz_b (c : Bool) {P : Prop} (h : P) : fk_bz (b2i c) P := by
  cases c
  · exact h
  · exact h
section CMPX
variable {d : Nat} {σ : fkS}
theorem c_below (a b : Int64) : Di d 128 [.long a, .long b] σ (fun r σ' => r = b2i (ultL a b) ∧ σ' = σ) := by
  have key : ∀ P : Prop, (a + (Int64.ofNat 9223372036854775808) < b + (Int64.ofNat 9223372036854775808) ↔ P) → (P ↔ hi64 a < hi64 b) := fun P h => h.symm.trans flip_lt
  refine S_Machine_below (Q := Qi _) ⟨fun z => ⟨rfl, ?_, rfl⟩, fun z => ⟨rfl, ?_, rfl⟩⟩
  · rw [lg_ge, l_le, flip_int, flip_int] at z
    have : ultL a b = false := decide_eq_false (by omega)
    rw [this]
    rfl
  · rw [lg_ge, l_le, flip_int, flip_int] at z
    have : ultL a b = true := decide_eq_true (by omega)
    rw [this]
    rfl
theorem nI_t (k : Nat) (h : k < 2 ^ 31) : (nI k).toInt = k := nI_toInt h
theorem c_compare {k : Nat} (a b : Int64) (h1 : 1 ≤ k) (h2 : k ≤ 10) : Di (d + 1) 127 [.int (nI k), .long a, .long b] σ (fun r σ' => r = b2i (cmpK k a b) ∧ σ' = σ) := by
  have ek : (nI k).toInt = k := nI_toInt (by omega)
  have bel : ∀ (x y : Int64) {P : Int32 → fkS → Prop}, P (b2i (ultL x y)) σ → Di d 128 [.long x, .long y] σ P := fun x y P hP => (c_below x y).mono fun x σ1 hx => by
    obtain ⟨r, rfl, e, rfl, rfl⟩ := Qi_s hx
    exact ⟨rfl, hP⟩
  have hb0 : ∀ c : Bool, b2i c = 0 ↔ c = false := fun c => b2i_0
  have hF : ∀ c : Bool, c = false → b2i c = 0 := fun c h => by rw [h]; rfl
  have hT : ∀ c : Bool, c = true → b2i c = 1 := fun c h => by rw [h]; rfl
  have hX : ∀ (P : Prop) [Decidable P] (v : Int32), (P → v = 1) → (¬ P → v = 0) → v = b2i (decide P) := fun P _ v p q => by
    by_cases z : P
    · rw [decide_eq_true z, p z]
      rfl
    · rw [decide_eq_false z, q z]
      rfl
  refine S_Machine_compare (Q := Qi _) ?_
  rw [ek]
  refine ⟨fun z => ?_, fun z => ?_, fun z => ?_, fun z => ?_, fun z => ?_, fun z => ?_, fun z => ?_, fun z => ?_, fun z => ?_, fun z => ?_, trivial⟩
  · have : k = 10 := by omega
    subst this
    refine bel a b ?_
    refine ⟨fun y => ⟨rfl, ?_, rfl⟩, fun y => ⟨rfl, ?_, rfl⟩⟩
    · show 0 = b2i (!ultL a b)
      cases hh : ultL a b
      · rw [hh] at y; exact absurd rfl y
      · rfl
    · show 1 = b2i (!ultL a b)
      rw [b2i_0.mp y]
      rfl
  · have : k = 1 := by omega
    subst this
    exact ⟨fun y => ⟨rfl, hX _ _ (fun w => absurd (lg_eq.mpr w) y) fun _ => rfl, rfl⟩, fun y => ⟨rfl, hX _ _ (fun _ => rfl) fun w => absurd (lg_eq.mp y) w, rfl⟩⟩
  · have : k = 2 := by omega
    subst this
    have e : cmpK 2 a b = decide (¬ a = b) := by
      show (!decide (a = b)) = _
      rw [decide_not]
    rw [e]
    exact ⟨fun y => ⟨rfl, hX _ _ (fun w => absurd (lg_eq.mp y) w) fun _ => rfl, rfl⟩, fun y => ⟨rfl, hX _ _ (fun _ => rfl) fun w => absurd (fun z => y (lg_eq.mpr z)) w, rfl⟩⟩
  · have : k = 3 := by omega
    subst this
    refine ⟨fun y => ⟨rfl, hX (a < b) _ (fun w => ?_) fun _ => rfl, rfl⟩, fun y => ⟨rfl, hX (a < b) _ (fun _ => rfl) fun w => ?_, rfl⟩⟩
    · rw [lg_ge, l_le] at y
      rw [l_lt] at w
      omega
    · rw [lg_ge, l_le] at y
      rw [l_lt] at w
      omega
  · have : k = 4 := by omega
    subst this
    refine bel a b ?_
    exact bz_b _ ⟨rfl, rfl, rfl⟩
  · have : k = 5 := by omega
    subst this
    refine ⟨fun y => ⟨rfl, hX (b < a) _ (fun w => ?_) fun _ => rfl, rfl⟩, fun y => ⟨rfl, hX (b < a) _ (fun _ => rfl) fun w => ?_, rfl⟩⟩
    · rw [lg_le, l_le] at y
      rw [l_lt] at w
      omega
    · rw [lg_le, l_le] at y
      rw [l_lt] at w
      omega
  · have : k = 6 := by omega
    subst this
    refine bel b a ?_
    exact bz_b _ ⟨rfl, rfl, rfl⟩
  · have : k = 7 := by omega
    subst this
    refine ⟨fun y => ⟨rfl, hX (a ≤ b) _ (fun w => ?_) fun _ => rfl, rfl⟩, fun y => ⟨rfl, hX (a ≤ b) _ (fun _ => rfl) fun w => ?_, rfl⟩⟩
    · rw [lg_gt, l_lt] at y
      rw [l_le] at w
      omega
    · rw [lg_gt, l_lt] at y
      rw [l_le] at w
      omega
  · have : k = 8 := by omega
    subst this
    refine bel b a ?_
    refine ⟨fun y => ⟨rfl, ?_, rfl⟩, fun y => ⟨rfl, ?_, rfl⟩⟩
    · show 0 = b2i (!ultL b a)
      cases hh : ultL b a
      · rw [hh] at y; exact absurd rfl y
      · rfl
    · show 1 = b2i (!ultL b a)
      rw [b2i_0.mp y]
      rfl
  · have : k = 9 := by omega
    subst this
    refine ⟨fun y => ⟨rfl, hX (b ≤ a) _ (fun w => ?_) fun _ => rfl, rfl⟩, fun y => ⟨rfl, hX (b ≤ a) _ (fun _ => rfl) fun w => ?_, rfl⟩⟩
    · rw [lg_lt, l_lt] at y
      rw [l_le] at w
      omega
    · rw [lg_lt, l_lt] at y
      rw [l_le] at w
      omega
end CMPX
