/-! NUMBERS, the reference: ones, leading and trailing zeros -/
theorem cz_mod : ∀ (w j x : Nat), w ≤ j → czN w x = czN w (x % 2 ^ j)
  | 0, _, _, _ => rfl
  | w + 1, j, x, h => by rw [czN, czN, ← cz_mod w j x (by omega), Nat.testBit_mod_two_pow, decide_eq_true (by omega : w < j), Bool.true_and]
theorem tz_mod : ∀ (r j0 j x : Nat), j0 + r ≤ j → tzN r j0 x = tzN r j0 (x % 2 ^ j)
  | 0, _, _, _, _ => rfl
  | r + 1, j0, j, x, h => by rw [tzN, tzN, ← tz_mod r (j0 + 1) j x (by omega), Nat.testBit_mod_two_pow, decide_eq_true (by omega : j0 < j), Bool.true_and]
theorem bits_mod (k : Nat) {w : Nat} (x j : Nat) (h : w ≤ j) : bitsN k w x = bitsN k w (x % 2 ^ j) := by
  unfold bitsN
  rw [← cz_mod w j x h, ← tz_mod w 0 j x (by omega), ← pc_mod w j x h]
theorem b2l_0 {c : Bool} : lg_cmp (b2l c) (0 : Int64) = 0 ↔ c = false := by
  rw [lg_eq]
  cases c
  · exact ⟨fun _ => rfl, fun _ => rfl⟩
  · exact ⟨fun z => absurd z (by decide), fun z => by cases z⟩
section BITSM
variable {d w op : Nat} {σ : fkS} {v : Int64} {A : List Int64} {P : Int64 → fkS → Prop}
theorem w_bits56 (hw : w ≤ 64) (hP : P (lN (pcN w (u8 v))) σ) : ∀ (r k : Nat), k + r = w → Wq 313 d 56 [none, none, some (.int (nI w)), none, some (.long v), none, some (.int (nI (pcN k (u8 v)))), some (.int (nI k))] [] σ (Qj P)
  | 0, k, h => by
    have h : k = w := by omega
    subst h
    have := pcN_le k (u8 v)
    refine S_M_bits_56 (pk_le k k (fun _ => ?_) fun z => absurd z (by omega))
    rw [nI_l (by omega)]
    exact hP
  | r + 1, k, h => by
    refine S_M_bits_56 (pk_le w k (fun z => absurd z (by omega)) fun _ => ?_)
    rw [bit1 v (show k < 64 by omega), nI_1]
    have : nI (pcN k (u8 v)) + (b2l ((u8 v).testBit k)).toInt32 = nI (pcN (k + 1) (u8 v)) := by
      rw [pcN]
      cases (u8 v).testBit k
      · show _ + (0 : Int32) = nI (_ + 0)
        rw [Int32.add_zero]
        rfl
      · show _ + (1 : Int32) = nI (_ + 1)
        exact nI_1 _
    rw [this]
    exact w_bits56 hw hP r (k + 1) (by omega)
theorem w_bits84z (hw : w ≤ 64) : ∀ (r k : Nat), k + r = w → P (lN (k + czN r (u8 v))) σ → Wq 313 d 84 [none, none, some (.int (nI w)), some (.int (nI 0)), some (.long v), none, some (.int (nI k)), none] [] σ (Qj P)
  | 0, k, h, hP => by
    have h : k = w := by omega
    subst h
    refine S_M_bits_84 (pk_le k k (fun _ => ?_) fun z => absurd z (by omega))
    rw [nI_l (by omega)]
    exact hP
  | r + 1, k, h, hP => by
    have e : nI w - (1 : Int32) - nI k = nI r := by
      rw [show (1 : Int32) = nI 1 from rfl, nI_sub (by omega), nI_sub (by omega)]
      congr 1
      omega
    refine S_M_bits_84 (pk_le w k (fun z => absurd z (by omega)) fun _ => ⟨fun z => absurd rfl z, fun _ => ?_⟩)
    rw [e, bit1 v (show r < 64 by omega), nI_1, b2l_0, nI_l (by omega)]
    rw [czN] at hP
    refine ⟨fun z => ?_, fun z => ?_⟩
    · have z : (u8 v).testBit r = true := by
        cases hh : (u8 v).testBit r
        · exact absurd hh z
        · rfl
      rw [if_pos z] at hP
      exact hP
    · rw [if_neg (by rw [z]; decide)] at hP
      refine w_bits84z hw r (k + 1) (by omega) ?_
      rw [show k + 1 + czN r (u8 v) = k + (czN r (u8 v) + 1) by omega]
      exact hP
theorem w_bits84t (hw : w ≤ 64) {c : Nat} (hc0 : 0 < c) (hc : c < 10) : ∀ (r k : Nat), k + r = w → P (lN (k + tzN r k (u8 v))) σ → Wq 313 d 84 [none, none, some (.int (nI w)), some (.int (nI c)), some (.long v), none, some (.int (nI k)), none] [] σ (Qj P)
  | 0, k, h, hP => by
    have h : k = w := by omega
    subst h
    refine S_M_bits_84 (pk_le k k (fun _ => ?_) fun z => absurd z (by omega))
    rw [nI_l (by omega)]
    exact hP
  | r + 1, k, h, hP => by
    refine S_M_bits_84 (pk_le w k (fun z => absurd z (by omega)) fun _ => ⟨fun _ => ?_, fun z => absurd z (nI_ne0 hc0 (by omega))⟩)
    rw [bit1 v (show k < 64 by omega), nI_1, b2l_0, nI_l (by omega)]
    rw [tzN] at hP
    refine ⟨fun z => ?_, fun z => ?_⟩
    · have z : (u8 v).testBit k = true := by
        cases hh : (u8 v).testBit k
        · exact absurd hh z
        · rfl
      rw [if_pos z] at hP
      exact hP
    · rw [if_neg (by rw [z]; decide)] at hP
      refine w_bits84t hw hc0 hc r (k + 1) (by omega) ?_
      rw [show k + 1 + tzN r (k + 1) (u8 v) = k + (tzN r (k + 1) (u8 v) + 1) by omega]
      exact hP
theorem w_bits31 (hw : w = 32 ∨ w = 64) {c : Nat} (hc : c ≤ 2) (h : oM σ (v :: A)) (hP : P (lN (bitsN c w (u8 v))) σ) : Wq 313 d 31 [some (.ref 103), none, some (.int (nI w)), none, none, none, none, none] [.int (nI c)] σ (Qj P) := by
  obtain ⟨h1, h2, h3⟩ := h.sp
  refine S_M_bits_31 ?_
  rw [h1, nI_clamp (by omega), h3]
  refine ⟨vp_in_nI (by omega) (by decide), And.comm.mp (pk_eq c 2 (fun z => ?_) fun z => ?_)⟩
  · subst z
    exact w_bits56 (by omega) hP w 0 (Nat.zero_add _)
  · by_cases y : c = 0
    · subst y
      refine w_bits84z (by omega) w 0 (Nat.zero_add _) ?_
      rw [Nat.zero_add]
      exact hP
    · have y1 : c = 1 := by omega
      subst y1
      refine w_bits84t (by omega) (by decide) (by decide) w 0 (Nat.zero_add _) ?_
      rw [Nat.zero_add]
      exact hP
theorem m_bits (hop : 103 ≤ op ∧ op ≤ 105 ∨ 121 ≤ op ∧ op ≤ 123) (h : oM σ (v :: A)) (hP : P (xU op v) σ) : Cj d 313 [.ref 103, .int (nI op)] σ P := by
  unfold xU at hP
  rw [if_neg (by omega)] at hP
  rcases hop with ho | ho
  · rw [if_pos ho.2] at hP
    have e : bitsN (op - 103) 32 (lo32 v) = bitsN (op - 103) 32 (u8 v) := (bits_mod _ (u8 v) 32 (Nat.le_refl _)).symm
    rw [e] at hP
    refine S_M_bits ⟨fun z => absurd z (nI_ge (a := op) (b := 121) (by omega) (by decide)), fun _ => ⟨fun z => absurd z (nI_ge (a := op) (b := 121) (by omega) (by decide)), fun _ => ?_⟩⟩
    rw [show (103 : Int32) = nI 103 from rfl, nI_sub ho.1]
    exact w_bits31 (w := 32) (.inl rfl) (by omega) h hP
  · rw [if_neg (by omega), if_pos ho.2] at hP
    refine S_M_bits ⟨fun _ => ⟨fun _ => ?_, fun z => absurd (nI_le (a := 121) ho.1 (by omega)) z⟩, fun z => absurd (nI_le (a := 121) ho.1 (by omega)) z⟩
    rw [show (121 : Int32) = nI 121 from rfl, nI_sub ho.1]
    exact w_bits31 (w := 64) (.inr rfl) (by omega) h hP
end BITSM
