/-! NUMBERS, the reference: comparisons; bits -/
theorem i32_int (a : Int32) : a.toInt = if u4 a < 2 ^ 31 then (u4 a : Int) else (u4 a : Int) - 2 ^ 32 := by
  show a.toBitVec.toInt = _
  rw [BitVec.toInt_eq_toNat_cond]
  show (if 2 * u4 a < 2 ^ 32 then (u4 a : Int) else (u4 a : Int) - 2 ^ 32) = _
  by_cases h : u4 a < 2 ^ 31
  · rw [if_pos h, if_pos (by omega)]
  · rw [if_neg h, if_neg (by omega)]
theorem lo_u4 (v : Int64) : u4 v.toInt32 = lo32 v := u4_of8 v
theorem c32_int {v : Int64} (h : c32 v) : v.toInt = v.toInt32.toInt := by
  have : v.toInt = v.toInt32.toInt64.toInt := congrArg Int64.toInt h
  rw [this, Int32.toInt_toInt64]
theorem c32_hi {v : Int64} (h : c32 v) : (lo32 v < 2 ^ 31 → hi64 v = lo32 v) ∧ (¬ lo32 v < 2 ^ 31 → hi64 v = lo32 v + (2 ^ 64 - 2 ^ 32)) := by
  have h1 := c32_int h
  rw [hi_int, i32_int, lo_u4] at h1
  have h2 := hi_lt v
  have h3 : lo32 v < 2 ^ 32 := Nat.mod_lt _ (by decide)
  constructor
  · intro z
    rw [if_pos z] at h1
    by_cases y : hi64 v < 2 ^ 63
    · rw [if_pos y] at h1
      omega
    · rw [if_neg y] at h1
      omega
  · intro z
    rw [if_neg z] at h1
    by_cases y : hi64 v < 2 ^ 63
    · rw [if_pos y] at h1
      omega
    · rw [if_neg y] at h1
      omega
theorem hi_lN {n : Nat} (h : n < 2 ^ 64) : hi64 (lN n) = n := u8_lN h
theorem ult_c32 {a b : Int64} (ha : c32 a) (hb : c32 b) : ultL (lN (lo32 a)) (lN (lo32 b)) = ultL a b := by
  have h3 : lo32 a < 2 ^ 32 := Nat.mod_lt _ (by decide)
  have h4 : lo32 b < 2 ^ 32 := Nat.mod_lt _ (by decide)
  obtain ⟨a1, a2⟩ := c32_hi ha
  obtain ⟨b1, b2⟩ := c32_hi hb
  unfold ultL
  rw [hi_lN (by omega), hi_lN (by omega)]
  by_cases y : lo32 a < 2 ^ 31
  · rw [a1 y]
    by_cases z : lo32 b < 2 ^ 31
    · rw [b1 z]
    · rw [b2 z, decide_eq_true (show lo32 a < lo32 b by omega), decide_eq_true (by omega)]
  · rw [a2 y]
    by_cases z : lo32 b < 2 ^ 31
    · rw [b1 z, decide_eq_false (show ¬ lo32 a < lo32 b by omega), decide_eq_false (by omega)]
    · rw [b2 z]
      by_cases w : lo32 a < lo32 b
      · rw [decide_eq_true w, decide_eq_true (by omega)]
      · rw [decide_eq_false w, decide_eq_false (by omega)]
section CMPM
variable {d k : Nat} {σ : fkS} {a b x y : Int64} {P : Int32 → fkS → Prop}
theorem m_below (h : P (b2i (ultL a b)) σ) : Ci d 316 [.long a, .long b] σ P := by
  refine S_M_isBelow ⟨fun z => ?_, fun z => ?_⟩
  · rw [lg_ge, l_le, flip_int, flip_int] at z
    have : ultL a b = false := decide_eq_false (by omega)
    rw [this] at h
    exact h
  · rw [lg_ge, l_le, flip_int, flip_int] at z
    have : ultL a b = true := decide_eq_true (by omega)
    rw [this] at h
    exact h
theorem m_cmp30 (h1 : 1 ≤ k) (h2 : k ≤ 10) (e1 : ultL x y = ultL a b) (e2 : ultL y x = ultL b a) (hP : P (b2i (cmpK k a b)) σ) : Wq 315 (d + 1) 30 [some (.int (nI (k - 1))), some (.long a), none, some (.long b), none, none, some (.long x), none, none, none] [.long y] σ (Qi P) := by
  have ek : (nI (k - 1)).toInt = (k - 1 : Nat) := nI_toInt (by omega)
  have hT : ∀ {v : Int32}, v = b2i (cmpK k a b) → Qi P (some (.int v)) σ := fun e => by rw [e]; exact hP
  have hX : ∀ (Z : Prop) [Decidable Z] {v : Int32}, cmpK k a b = decide Z → (Z → v = 1) → (¬ Z → v = 0) → Qi P (some (.int v)) σ := fun Z _ v e p q => hT (by
    rw [e]
    by_cases z : Z
    · rw [decide_eq_true z, p z]
      rfl
    · rw [decide_eq_false z, q z]
      rfl)
  have neg : ∀ {c : Bool} {v : Int32}, cmpK k a b = !c → (b2i c = 0 → v = 1) → (¬ b2i c = 0 → v = 0) → Qi P (some (.int v)) σ := fun {c v} e p q => hT (by
    rw [e]
    cases c
    · rw [p rfl]
      rfl
    · rw [q (by decide)]
      rfl)
  refine S_M_compared_30 ?_
  rw [ek]
  refine ⟨fun z => ?_, fun z => ?_, fun z => ?_, fun z => ?_, fun z => ?_, fun z => ?_, fun z => ?_, fun z => ?_, fun z => ?_, fun z => ?_, trivial⟩
  · have : k = 10 := by omega
    subst this
    refine m_below ?_
    rw [e1]
    exact ⟨fun w => neg rfl (fun u => absurd u w) fun _ => rfl, fun w => neg rfl (fun _ => rfl) fun u => absurd w u⟩
  · have : k = 1 := by omega
    subst this
    exact ⟨fun w => hX (a = b) rfl (fun u => absurd (lg_eq.mpr u) w) fun _ => rfl, fun w => hX (a = b) rfl (fun _ => rfl) fun u => absurd (lg_eq.mp w) u⟩
  · have : k = 2 := by omega
    subst this
    have e : cmpK 2 a b = decide (¬ a = b) := by
      show (!decide (a = b)) = _
      rw [decide_not]
    exact ⟨fun w => hX _ e (fun u => absurd (lg_eq.mp w) u) fun _ => rfl, fun w => hX _ e (fun _ => rfl) fun u => absurd (fun z => w (lg_eq.mpr z)) u⟩
  · have : k = 3 := by omega
    subst this
    refine ⟨fun w => hX (a < b) rfl (fun u => ?_) fun _ => rfl, fun w => hX (a < b) rfl (fun _ => rfl) fun u => ?_⟩
    · rw [lg_ge, l_le] at w
      rw [l_lt] at u
      omega
    · rw [lg_ge, l_le] at w
      rw [l_lt] at u
      omega
  · have : k = 4 := by omega
    subst this
    refine m_below ?_
    rw [e1]
    exact bz_b _ hP
  · have : k = 5 := by omega
    subst this
    refine ⟨fun w => hX (b < a) rfl (fun u => ?_) fun _ => rfl, fun w => hX (b < a) rfl (fun _ => rfl) fun u => ?_⟩
    · rw [lg_le, l_le] at w
      rw [l_lt] at u
      omega
    · rw [lg_le, l_le] at w
      rw [l_lt] at u
      omega
  · have : k = 6 := by omega
    subst this
    refine m_below ?_
    rw [e2]
    exact bz_b _ hP
  · have : k = 7 := by omega
    subst this
    refine ⟨fun w => hX (a ≤ b) rfl (fun u => ?_) fun _ => rfl, fun w => hX (a ≤ b) rfl (fun _ => rfl) fun u => ?_⟩
    · rw [lg_gt, l_lt] at w
      rw [l_le] at u
      omega
    · rw [lg_gt, l_lt] at w
      rw [l_le] at u
      omega
  · have : k = 8 := by omega
    subst this
    refine m_below ?_
    rw [e2]
    exact ⟨fun w => neg rfl (fun u => absurd u w) fun _ => rfl, fun w => neg rfl (fun _ => rfl) fun u => absurd w u⟩
  · have : k = 9 := by omega
    subst this
    refine ⟨fun w => hX (b ≤ a) rfl (fun u => ?_) fun _ => rfl, fun w => hX (b ≤ a) rfl (fun _ => rfl) fun u => ?_⟩
    · rw [lg_lt, l_lt] at w
      rw [l_le] at u
      omega
    · rw [lg_lt, l_lt] at w
      rw [l_le] at u
      omega
theorem m_compared (h1 : 1 ≤ k) (h2 : k ≤ 10) (wide : Bool) (hc : wide = false → c32 a ∧ c32 b) (hP : P (b2i (cmpK k a b)) σ) : Ci (d + 1) 315 [.int (nI (k - 1)), .long a, .long b, .int (b2i wide)] σ P := by
  cases wide with
  | false =>
    obtain ⟨ha, hb⟩ := hc rfl
    refine S_M_compared ⟨fun _ => ⟨fun _ => ?_, fun z => absurd rfl z⟩, fun z => absurd rfl z⟩
    rw [and32, and32]
    exact m_cmp30 h1 h2 (ult_c32 ha hb) (ult_c32 hb ha) hP
  | true =>
    exact S_M_compared ⟨fun z => absurd z (by decide), fun _ => ⟨fun z => absurd z (by decide), fun _ => m_cmp30 h1 h2 rfl rfl hP⟩⟩
/-! ones, leading and trailing zeros -/
theorem bit1 (v : Int64) {s : Nat} (hs : s < 64) : (fk_lshr v (nI s)) &&& (1 : Int64) = b2l ((u8 v).testBit s) := by
  apply u8_inj
  rw [u8_and]
  have e1 : u8 (fk_lshr v (nI s)) = (v.toBitVec.sshiftRight s).toNat := congrArg BitVec.toNat (fk_lshr_nat hs)
  have e2 : u8 (1 : Int64) = 1 := rfl
  rw [e1, e2, Nat.and_one_is_mod]
  have e3 : (v.toBitVec.sshiftRight s).toNat.testBit 0 = (u8 v).testBit s := by
    have : (v.toBitVec.sshiftRight s).getLsbD 0 = v.toBitVec.getLsbD s := by
      rw [BitVec.getLsbD_sshiftRight]
      simp [hs]
    exact this
  rw [Nat.testBit_zero] at e3
  cases hh : (u8 v).testBit s with
  | false =>
    rw [hh] at e3
    have := of_decide_eq_false e3
    show _ = 0
    omega
  | true =>
    rw [hh] at e3
    exact of_decide_eq_true e3
end CMPM
