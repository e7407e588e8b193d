/-! STRING CONSTANTS: what length, charAt and indexOf answer -/
theorem rg_S {i : Nat} (hi : i < fk_nL) {P : Prop} (h : P) : fk_rg (2000 + i) 2000 P := ⟨⟨by omega, by omega⟩, h⟩
theorem rg_V {i : Nat} (hi : i < fk_nL) {P : Prop} (h : P) : fk_rg (3000 + i) 3000 P := ⟨⟨by omega, by omega⟩, h⟩
theorem rg_e (i : Nat) : 2000 + i + 1000 = 3000 + i := by omega
/-- sign k of constant i -/
def sch (i k : Nat) : Int32 := (fk_bt i).getD k 0
theorem sch_all : (List.range fk_nL).all (fun i => decide (fk_ln i < 128) && (fk_bt i).all (fun b => decide (0 ≤ b ∧ b < 128 ∧ fk_i2c (b &&& 255) = b ∧ narrow .char (.int b) = .int b))) = true := by decide +kernel
theorem sch_ln {i : Nat} (hi : i < fk_nL) : fk_ln i < 128 := by
  have h := List.all_eq_true.mp sch_all i (List.mem_range.mpr hi)
  simp only [Bool.and_eq_true] at h
  exact of_decide_eq_true h.1
theorem sch_b {i : Nat} (hi : i < fk_nL) {b : Int32} (hb : b ∈ fk_bt i) : 0 ≤ b ∧ b < 128 ∧ fk_i2c (b &&& 255) = b ∧ narrow .char (.int b) = .int b := by
  have h := List.all_eq_true.mp sch_all i (List.mem_range.mpr hi)
  simp only [Bool.and_eq_true] at h
  exact of_decide_eq_true (List.all_eq_true.mp h.2 b hb)
theorem sch_mem {i k : Nat} (hk : k < fk_ln i) : sch i k ∈ fk_bt i := by
  unfold sch
  rw [List.getD_eq_getElem?_getD, List.getElem?_eq_getElem hk]
  exact List.getElem_mem hk
theorem s_coder {d i : Nat} {σ : fkS} (hi : i < fk_nL) : Ci d 153 [.ref (2000 + i)] σ (fun x s => s = σ ∧ x = 0) :=
  S_jString_coder ⟨fun h => absurd h (by decide), fun _ => rg_S hi ⟨rfl, rfl, rfl⟩⟩
theorem s_latin {d i : Nat} {σ : fkS} (hi : i < fk_nL) : Ci d 156 [.ref (2000 + i)] σ (fun x s => s = σ ∧ x = 1) :=
  S_jString_isLatin1 ⟨fun h => absurd h (by decide), fun _ => rg_S hi ⟨fun h => absurd rfl h, fun _ => ⟨rfl, rfl⟩⟩⟩
theorem s_length {d i : Nat} {σ : fkS} (hi : i < fk_nL) : Ci (d + 1) 152 [.ref (2000 + i)] σ (fun x s => s = σ ∧ x = nI (fk_ln i)) := by
  refine S_jString_length ?_
  rw [rg_e]
  refine rg_S hi (rg_V hi (rg_S hi ((s_coder hi).mono fun x s hx => ?_)))
  obtain ⟨v, rfl, rfl, rfl⟩ := Qi_s hx
  refine ⟨rfl, ?_⟩
  rw [Nat.add_sub_cancel_left]
  have e : ((0 : Int32) &&& 31) = 0 := by decide
  rw [e, Int32.shiftRight_zero]
  rfl
theorem s_pre {d i n : Nat} {σ : fkS} (hi : i < n) (hn : n < 2 ^ 31) : Ci d 159 [.int (nI i), .int (nI n), .null] σ (fun x s => s = σ ∧ x = nI i) :=
  S_jPreconditions_checkIndex ⟨fun h => nI_pos (by omega) h, fun _ => ⟨fun _ => ⟨rfl, rfl⟩, fun h => h (nI_lt hi hn)⟩⟩
theorem s_check {d i n : Nat} {σ : fkS} (hi : i < n) (hn : n < 2 ^ 31) : Cv (d + 1) 158 [.int (nI i), .int (nI n)] σ (fun s => s = σ) := by
  refine S_jString_checkIndex ((s_pre hi hn).mono fun x s hx => ?_)
  obtain ⟨v, rfl, rfl, rfl⟩ := Qi_s hx
  exact rfl
theorem s_at {d i k : Nat} {σ : fkS} (hi : i < fk_nL) (hk : k < fk_ln i) : Ci (d + 2) 157 [.ref (3000 + i), .int (nI k)] σ (fun x s => s = σ ∧ x = sch i k) := by
  have hl := sch_ln hi
  refine S_jStringLatin1_charAt (rg_V hi ?_)
  rw [Nat.add_sub_cancel_left]
  refine (s_check (n := fk_ln i) hk (by omega)).mono fun x s hx => ?_
  obtain ⟨rfl, rfl⟩ := Qv_s hx
  refine rg_V hi ?_
  have e : (nI k).toNatClampNeg = k := nI_clamp (by omega)
  obtain ⟨-, -, h1, h2⟩ := sch_b hi (sch_mem hk)
  rw [e]
  have h1' : fk_i2c ((fk_bt i).getD k 0 &&& 255) = sch i k := h1
  rw [h1']
  exact ⟨vp_in_nI hk (by omega), h2, rfl, rfl⟩
theorem s_charAt {d i k : Nat} {σ : fkS} (hi : i < fk_nL) (hk : k < fk_ln i) : Ci (d + 3) 155 [.ref (2000 + i), .int (nI k)] σ (fun x s => s = σ ∧ x = sch i k) := by
  refine S_jString_charAt (rg_S hi ((s_latin hi).mono fun x s hx => ?_))
  obtain ⟨v, rfl, rfl, rfl⟩ := Qi_s hx
  refine ⟨fun h => absurd h (by decide), fun _ => rg_S hi ?_⟩
  rw [rg_e]
  refine (s_at hi hk).mono fun x s hx => ?_
  obtain ⟨v, rfl, rfl, rfl⟩ := Qi_s hx
  exact ⟨(sch_b hi (sch_mem hk)).2.2.2, rfl, rfl⟩
theorem s_enc {d n : Nat} {σ : fkS} (hn : n < 256) : Ci d 169 [.int (nI n)] σ (fun x s => s = σ ∧ x = 1) :=
  S_jStringLatin1_canEncode ⟨fun h => absurd h (nI_pos (by omega)), fun _ => ⟨fun h => absurd h (nI_nlt (a := 255) (b := n) (by omega) (by omega)), fun _ => ⟨rfl, rfl⟩⟩⟩
theorem s_i8 : (List.range 256).all (fun n => decide ((nI n).toInt8.toInt32 = if n < 128 then nI n else nI n - 256) && decide (128 ≤ n → nI n - 256 < 0)) = true := by decide +kernel
theorem s_byte {n : Nat} (hn : n < 256) {b : Int32} (h0 : 0 ≤ b) (h1 : b < 128) : b = (nI n).toInt8.toInt32 ↔ b = nI n := by
  have h := List.all_eq_true.mp s_i8 n (List.mem_range.mpr hn)
  rw [Bool.and_eq_true] at h
  rw [of_decide_eq_true h.1]
  by_cases c : n < 128
  · rw [if_pos c]
  · rw [if_neg c]
    have h2 := of_decide_eq_true h.2 (by omega)
    constructor
    · intro e
      rw [← e] at h2
      exact absurd h0 (Int32.not_le.mpr h2)
    · intro e
      rw [e] at h1
      have h3 : nI n < nI 128 := h1
      exact absurd h3 (nI_nlt (by omega) (by omega))
/-- the loop of indexOf: none of the first k is c -/
theorem s_ixLoop {d i n : Nat} {σ : fkS} (hi : i < fk_nL) (hn : n < 256) : ∀ (m k : Nat), fk_ln i - k < m → k ≤ fk_ln i → (∀ j, j < k → ¬ sch i j = nI n) → Wq 170 d 7 [some (.ref (3000 + i)), none, none, some (.int (nI (fk_ln i))), some (.int (nI n).toInt8.toInt32), some (.int (nI k))] [] σ (Qi (fun x s => s = σ ∧ (0 ≤ x ↔ nI n ∈ fk_bt i)))
  | 0, k, hm, _, _ => by omega
  | m + 1, k, hm, hk, hno => by
    have hl := sch_ln hi
    refine S_jStringLatin1_indexOfChar_7 ⟨fun h => ?_, fun h => rg_V hi ?_⟩
    · refine ⟨rfl, ⟨fun h2 => absurd h2 (by decide), fun h2 => ?_⟩⟩
      have e : fk_ln i ≤ k := by
        rcases Nat.lt_or_ge k (fk_ln i) with c | c
        · exact absurd h (nI_ge c (by omega))
        · exact c
      obtain ⟨j, hj, e2⟩ := List.getElem_of_mem h2
      refine absurd ?_ (hno j (Nat.lt_of_lt_of_le hj e))
      unfold sch
      rw [List.getD_eq_getElem?_getD, List.getElem?_eq_getElem hj]
      exact e2
    · have hk2 : k < fk_ln i := by
        rcases Nat.lt_or_ge k (fk_ln i) with c | c
        · exact c
        · exact absurd (nI_le c (by omega)) h
      have e : (nI k).toNatClampNeg = k := nI_clamp (by omega)
      rw [Nat.add_sub_cancel_left, e]
      obtain ⟨b0, b1, -, -⟩ := sch_b hi (sch_mem hk2)
      refine ⟨vp_in_nI hk2 (by omega), fun hne => ?_, fun he => ?_⟩
      · have e3 : nI k + 1 = nI (k + 1) := (nI_succ k).symm
        rw [e3]
        refine s_ixLoop hi hn m (k + 1) (by omega) hk2 fun j hj => ?_
        rcases Nat.lt_or_ge j k with c | c
        · exact hno j c
        · have : j = k := by omega
          subst this
          exact fun z => hne ((s_byte hn b0 b1).mpr z)
      · refine ⟨rfl, ⟨fun _ => ?_, fun _ => ?_⟩⟩
        · have z : sch i k = nI n := (s_byte hn b0 b1).mp he
          rw [← z]
          exact sch_mem hk2
        · exact Int32.not_lt.mp (nI_pos (by omega))
theorem s_ix {d i n : Nat} {σ : fkS} (hi : i < fk_nL) (hn : n < 256) : Ci (d + 1) 168 [.ref (3000 + i), .int (nI n), .int 0, .int (nI (fk_ln i))] σ (fun x s => s = σ ∧ (0 ≤ x ↔ nI n ∈ fk_bt i)) := by
  have hl := sch_ln hi
  refine S_jStringLatin1_indexOf ((s_enc hn).mono fun x s hx => ?_)
  obtain ⟨v, rfl, rfl, rfl⟩ := Qi_s hx
  refine ⟨fun _ => rg_V hi ?_, fun h => absurd h (by decide)⟩
  rw [Nat.add_sub_cancel_left]
  have e1 : (if (0 : Int32) < 0 then (0 : Int32) else 0) = 0 := by decide
  have e2 : (if Int32.ofNat (fk_ln i) < nI (fk_ln i) then Int32.ofNat (fk_ln i) else nI (fk_ln i)) = nI (fk_ln i) := ite_self _
  rw [e1, e2]
  refine ⟨fun _ => ?_, fun h => ?_⟩
  · exact (S_jStringLatin1_indexOfChar (s_ixLoop hi hn (fk_ln i + 1) 0 (by omega) (Nat.zero_le _) (fun j hj => by omega))).mono fun x s hx => hx
  · have e : fk_ln i = 0 := by
      rcases Nat.eq_zero_or_pos (fk_ln i) with c | c
      · exact c
      · exact absurd (nI_lt (a := 0) c (by omega)) h
    refine ⟨rfl, ⟨fun h2 => absurd h2 (by decide), fun h2 => ?_⟩⟩
    rw [List.length_eq_zero_iff.mp e] at h2
    cases h2
/-- indexOf(c) for a byte c: it is there or not -/
theorem s_indexOf {d i n : Nat} {σ : fkS} (hi : i < fk_nL) (hn : n < 256) : Ci (d + 3) 166 [.ref (2000 + i), .int (nI n)] σ (fun x s => s = σ ∧ (0 ≤ x ↔ nI n ∈ fk_bt i)) := by
  refine S_jString_indexOf0 (rg_S hi ((S_jString_indexOf1 (Q := Qi (fun x s => s = σ ∧ (0 ≤ x ↔ nI n ∈ fk_bt i))) (rg_S hi ((s_latin hi).mono fun x s hx => ?_))).mono fun x s hx => ?_))
  · obtain ⟨v, rfl, rfl, rfl⟩ := Qi_s hx
    refine ⟨fun h => absurd h (by decide), fun _ => rg_S hi (rg_S hi ((s_length hi).mono fun x s hx => ?_))⟩
    obtain ⟨v, rfl, rfl, rfl⟩ := Qi_s hx
    show Ci _ _ _ _ _
    rw [rg_e]
    refine (s_ix hi hn).mono fun x s hx => ?_
    obtain ⟨v, rfl, h⟩ := Qi_s hx
    exact h
  · obtain ⟨v, rfl, h⟩ := Qi_s hx
    exact h
