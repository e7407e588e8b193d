/-! NUMBERS, the reference: the INSTRUCTION -/
def sTm (c j : Nat) : Bool := sOm c j || (Nat.beq c 103 && Nat.beq j 69)
theorem sOm_tm {c j : Nat} (h : sOm c j = true) : sTm c j = true := by
  unfold sTm
  rw [h]
  rfl
theorem sTm_ri {c j : Nat} (h : sTm c j = true) : sRi c j = true := by
  unfold sTm sOm at h
  unfold sRi
  simp only [Bool.or_eq_true, Bool.and_eq_true, Nat.beq_eq, Nat.ble_eq] at h ⊢
  omega
section NUMM2
variable {d c op : Nat} {σ : fkS} {a b v : Int64} {A : List Int64} {Q : fkS → Prop} {base : Int32}
/-- comparisons -/
theorem m_bin1 (hop : 70 ≤ op ∧ op ≤ 79 ∨ 81 ≤ op ∧ op ≤ 90) (hc : op ≤ 79 → c32 a ∧ c32 b) (h : oM σ (b :: a :: A)) (hQ : ∀ σ', Fr sOm σ σ' → oM σ' ((xB op a b).2 :: A) → Q σ') : Cv (d + 4) 314 [.ref 103, .int (nI op)] σ Q := by
  have hlA : A.length + 1 + 1 ≤ 30000 := h.2.1
  have key : ∀ (wide : Bool) (k : Nat), 1 ≤ k → k ≤ 10 → (wide = false → c32 a ∧ c32 b) → (xB op a b).2 = b2l (cmpK k a b) → ∀ {s0 : Int32}, s0 = nI (k - 1) → Wq 314 (d + 4) 75 [some (.ref 103), none, some (.int (1 : Int32)), some (.int (b2i wide)), none, none, none, none, none, none, none] [.int s0] σ (Qv Q) := fun wide k k1 k2 hc he s0 hs => by
    refine S_M_binary_75 (m_pops h fun σ1 f1 o1 => m_pops o1 fun σ2 f2 o2 => ⟨fun z => absurd z (by decide), fun _ => ?_⟩)
    rw [hs]
    refine m_compared k1 k2 wide hc ?_
    rw [he] at hQ
    refine ⟨fun z => ?_, fun z => ?_⟩
    · have z := b2i_0.mp z
      rw [z] at hQ
      exact m_pushes o2 (by omega) fun σ3 f3 o3 => hQ σ3 ((f1.tr f2).tr f3) o3
    · have z : cmpK k a b = true := by
        cases hh : cmpK k a b
        · rw [hh] at z
          exact absurd rfl z
        · rfl
      rw [z] at hQ
      exact m_pushes o2 (by omega) fun σ3 f3 o3 => hQ σ3 ((f1.tr f2).tr f3) o3
  refine S_M_binary ⟨fun z => absurd z (nI_nlt (a := 90) (b := op) (by omega) (by decide)), fun _ => ?_⟩
  refine S_M_binary_11 ⟨fun z => absurd z (by decide), fun _ => ?_⟩
  by_cases z : op ≤ 79
  · refine ⟨fun _ => S_M_binary_41 ⟨fun y => absurd y (by decide), fun _ => ⟨fun _ => ?_, fun y => absurd rfl y⟩⟩, fun y => absurd (nI_le (a := op) (b := 80) (by omega) (by decide)) y⟩
    refine key false (op - 69) (by omega) (by omega) (fun _ => hc z) ?_ ?_
    · unfold xB
      rw [if_pos z]
    · rw [show (70 : Int32) = nI 70 from rfl, nI_sub (by omega)]
      congr 1
  · refine ⟨fun y => absurd y (nI_ge (a := 80) (b := op) (by omega) (by omega)), fun _ => S_M_binary_41 ⟨fun y => absurd y (by decide), fun _ => ⟨fun y => absurd y (by decide), fun _ => ?_⟩⟩⟩
    refine key true (op - 80) (by omega) (by omega) (fun y => by cases y) ?_ ?_
    · unfold xB
      rw [if_neg z, if_pos (by omega)]
    · rw [show (81 : Int32) = nI 81 from rfl, nI_sub (by omega)]
      congr 1
/-- arithmetic -/
theorem m_bin2 (hop : 106 ≤ op ∧ op ≤ 120 ∨ 124 ≤ op ∧ op ≤ 138) (hc : op ≤ 120 → c32 a ∧ c32 b) (h69 : σ.1 103 69 = 0) (h : oM σ (b :: a :: A)) (hQ : ∀ σ', Fr sTm σ σ' → σ'.1 103 69 = nI (xB op a b).1 → ((xB op a b).1 = 0 → oM σ' ((xB op a b).2 :: A)) → Q σ') : Cv (d + 4) 314 [.ref 103, .int (nI op)] σ Q := by
  have hlA : A.length + 1 + 1 ≤ 30000 := h.2.1
  have h4 := xB_t (op := op) (a := a) (b := b)
  -- behind what was reckoned
  refine S_M_binary ⟨fun _ => ?_, fun z => absurd (nI_lt (a := 90) (b := op) (by omega) (by omega)) z⟩
  refine S_M_binary_11 ⟨fun _ => ?_, fun z => absurd rfl z⟩
  by_cases z : op ≤ 120
  · obtain ⟨ha, hb⟩ := hc z
    have hx : xB op a b = ((i32B (op - 103) a.toInt32 b.toInt32).1, (i32B (op - 103) a.toInt32 b.toInt32).2.toInt64) := by
      unfold xB
      rw [if_neg (by omega), if_neg (by omega), if_pos z]
    have he : op - 103 = (op - 106) + 3 := by omega
    refine ⟨fun _ => S_M_binary_41 ⟨fun _ => ⟨fun _ => ?_, fun y => absurd rfl y⟩, fun y => absurd rfl y⟩, fun y => absurd (nI_lt (a := op) (b := 121) (by omega) (by decide)) y⟩
    rw [show (106 : Int32) = nI 106 from rfl, nI_sub (by omega)]
    refine S_M_binary_75 (m_pops h fun σ1 f1 o1 => m_pops o1 fun σ2 f2 o2 => ⟨fun _ => ?_, fun y => absurd rfl y⟩)
    have f12 := f1.tr f2
    have k69 : σ2.1 103 69 = 0 := (f12 _ _ rfl).1.trans h69
    refine m_rec32 (by omega) ha hb k69 (fun e r hr => ?_) fun e r => ?_
    · rw [← he] at e hr
      refine ⟨fun y => absurd k69 y, fun _ => ⟨fun _ => m_pushes o2 (by omega) fun σ3 f3 o3 => ?_, fun y => absurd rfl y⟩⟩
      refine hQ σ3 ((f12.tr f3).mono fun _ _ => sOm_tm) ?_ fun _ => ?_
      · rw [(f3 _ _ rfl).1, k69, hx]
        show 0 = nI (i32B (op - 103) a.toInt32 b.toInt32).1
        rw [e]
        rfl
      · rw [hx]
        show oM σ3 ((i32B (op - 103) a.toInt32 b.toInt32).2.toInt64 :: A)
        rw [← hr]
        exact o3
    · rw [← he] at e
      rw [hx] at h4 hQ
      have h4 : (i32B (op - 103) a.toInt32 b.toInt32).1 ≤ 4 := h4
      have e69 : (sI σ2 103 69 (nI (i32B (op - 106 + 3) a.toInt32 b.toInt32).1)).1 103 69 = nI (i32B (op - 103) a.toInt32 b.toInt32).1 := by rw [sI_ss, ← he]
      refine ⟨fun _ => hQ _ ((f12.mono fun _ _ => sOm_tm).sI rfl) e69 fun y => absurd y e, fun y => absurd (e69.symm.trans y) (nI_ne0 (by omega) (by omega))⟩
  · have hx : xB op a b = i64B (op - 121) a b := by
      unfold xB
      rw [if_neg (by omega), if_neg (by omega), if_neg z]
    have he : op - 121 = (op - 124) + 3 := by omega
    refine ⟨fun y => absurd y (nI_nlt (a := op) (b := 121) (by omega) (by omega)), fun _ => S_M_binary_41 ⟨fun _ => ⟨fun y => absurd y (by decide), fun _ => ?_⟩, fun y => absurd rfl y⟩⟩
    rw [show (124 : Int32) = nI 124 from rfl, nI_sub (by omega)]
    refine S_M_binary_75 (m_pops h fun σ1 f1 o1 => m_pops o1 fun σ2 f2 o2 => ⟨fun _ => ?_, fun y => absurd rfl y⟩)
    have f12 := f1.tr f2
    have k69 : σ2.1 103 69 = 0 := (f12 _ _ rfl).1.trans h69
    refine m_rec64 (by omega) k69 (fun e => ?_) fun e r => ?_
    · rw [← he] at e ⊢
      refine ⟨fun y => absurd k69 y, fun _ => ⟨fun y => absurd y (by decide), fun _ => m_pushes o2 (by omega) fun σ3 f3 o3 => ?_⟩⟩
      refine hQ σ3 ((f12.tr f3).mono fun _ _ => sOm_tm) ?_ fun _ => ?_
      · rw [(f3 _ _ rfl).1, k69, hx, e]
        rfl
      · rw [hx]
        exact o3
    · rw [← he] at e
      rw [hx] at h4 hQ
      have e69 : (sI σ2 103 69 (nI (i64B (op - 124 + 3) a b).1)).1 103 69 = nI (i64B (op - 121) a b).1 := by rw [sI_ss, ← he]
      refine ⟨fun _ => hQ _ ((f12.mono fun _ _ => sOm_tm).sI rfl) e69 fun y => absurd y e, fun y => absurd (e69.symm.trans y) (nI_ne0 (by omega) (by omega))⟩
end NUMM2
