/-! the class's CODE: rows added, jumps landed -/
/-- an entry: what, its value, where, more -/
abbrev cdE : Type := Int32 × Int64 × Int32 × Int32
/-- the rows say this CODE -/
def CR (C : List cdE) (σ : fkS) : Prop := σ.1 75 9 = nI C.length ∧ C.length ≤ 3000 ∧ ∀ i e, C[i]? = some e → σ.1 84 i = e.1 ∧ σ.2.1 85 i = e.2.1 ∧ σ.1 86 i = e.2.2.1 ∧ σ.1 87 i = e.2.2.2
def fkCR (c j : Nat) : Bool := Nat.beq c 84 || Nat.beq c 85 || Nat.beq c 86 || Nat.beq c 87 || (Nat.beq c 75 && Nat.beq j 9)
theorem CR.fg {C : List cdE} {σ σ' : fkS} {S : Nat → Nat → Bool} (h : CR C σ) (hf : Fr S σ σ') (h9 : S 75 9 = false) (h84 : ∀ j, S 84 j = false) (h85 : ∀ j, S 85 j = false) (h86 : ∀ j, S 86 j = false) (h87 : ∀ j, S 87 j = false) : CR C σ' := by
  refine ⟨(hf _ _ h9).1.trans h.1, h.2.1, fun i e he => ?_⟩
  obtain ⟨a1, a2, a3, a4⟩ := h.2.2 i e he
  exact ⟨(hf _ _ (h84 i)).1.trans a1, (hf _ _ (h85 i)).2.1.trans a2, (hf _ _ (h86 i)).1.trans a3, (hf _ _ (h87 i)).1.trans a4⟩
/-- CODE with one entry more, if there is room -/
def cdA (C : List cdE) (e : cdE) : List cdE := if C.length < 3000 then C ++ [e] else C
theorem p_add {d : Nat} {C : List cdE} {o at0 ex : Int32} {v : Int64} {σ : fkS} (h : CR C σ) : Di d 190 [.ref 75, .int o, .long v, .int at0, .int ex] σ (fun x s => x = nI (min C.length 2999) ∧ Fr fkCR σ s ∧ CR (cdA C (o, v, at0, ex)) s) := by
  obtain ⟨h9, hl, hr⟩ := h
  refine S_Program_add ?_
  rw [h9]
  refine ⟨fun z => ?_, fun z => ?_⟩
  · have c : C.length < 3000 := by
      rcases Nat.lt_or_ge C.length 3000 with c | c
      · exact c
      · exact absurd z (nI_nlt (b := 3000) c (by omega))
    have vi : vp_in (nI C.length) 3000 := vp_in_nI c (by decide)
    have e : (nI C.length).toNatClampNeg = C.length := nI_clamp (by omega)
    have e1 : nI C.length + 1 = nI (C.length + 1) := (nI_succ C.length).symm
    rw [e, e1]
    refine ⟨vi, vi, vi, vi, rfl, ?_, ((((Fr.rf.sI rfl).sL rfl).sI rfl).sI rfl).sI rfl, ?_⟩
    · rw [show (1 : Int32) = nI 1 from rfl, nI_sub (by omega), Nat.add_sub_cancel, Nat.min_eq_left (by omega)]
    · unfold cdA
      rw [if_pos c]
      refine ⟨?_, by rw [List.length_append]; exact c, fun i q hq => ?_⟩
      · rw [List.length_append]
        exact sI_ss
      · have r84 : (sI (sI (sI (sL (sI σ 84 C.length o) 85 C.length v) 86 C.length at0) 87 C.length ex) 75 9 (nI (C.length + 1))).1 84 = (sI σ 84 C.length o).1 84 := (sI_o (by decide)).trans ((sI_o (by decide)).trans ((sI_o (by decide)).trans rfl))
        have r85 : (sI (sI (sI (sL (sI σ 84 C.length o) 85 C.length v) 86 C.length at0) 87 C.length ex) 75 9 (nI (C.length + 1))).2.1 85 = (sL σ 85 C.length v).2.1 85 := rfl
        have r86 : (sI (sI (sI (sL (sI σ 84 C.length o) 85 C.length v) 86 C.length at0) 87 C.length ex) 75 9 (nI (C.length + 1))).1 86 = (sI (sL (sI σ 84 C.length o) 85 C.length v) 86 C.length at0).1 86 := (sI_o (by decide)).trans (sI_o (by decide))
        have r87 : (sI (sI (sI (sL (sI σ 84 C.length o) 85 C.length v) 86 C.length at0) 87 C.length ex) 75 9 (nI (C.length + 1))).1 87 = (sI (sI (sL (sI σ 84 C.length o) 85 C.length v) 86 C.length at0) 87 C.length ex).1 87 := sI_o (by decide)
        rw [r84, r85, r86, r87]
        by_cases c2 : i < C.length
        · rw [List.getElem?_append_left c2] at hq
          obtain ⟨a1, a2, a3, a4⟩ := hr i q hq
          have ne : i ≠ C.length := by omega
          refine ⟨(sI_so ne).trans a1, (sL_so ne).trans a2, (sI_so ne).trans ((?_ : _ = σ.1 86 i).trans a3), (sI_so ne).trans ((?_ : _ = σ.1 87 i).trans a4)⟩
          · exact (show (sI σ 84 C.length o).1 86 i = σ.1 86 i from congrFun (sI_o (by decide)) i)
          · exact (congrFun (sI_o (by decide)) i).trans (show (sI σ 84 C.length o).1 87 i = σ.1 87 i from congrFun (sI_o (by decide)) i)
        · have c3 : i = C.length := by
            have := (List.getElem?_eq_some_iff.mp hq).1
            rw [List.length_append] at this
            have l1 : [(o, v, at0, ex)].length = 1 := rfl
            omega
          subst c3
          rw [List.getElem?_append_right (Nat.le_refl _), Nat.sub_self] at hq
          have : (o, v, at0, ex) = q := Option.some.inj hq
          subst this
          exact ⟨sI_ss, sL_ss, sI_ss, sI_ss⟩
  · have c : C.length = 3000 := by
      rcases Nat.lt_or_ge C.length 3000 with c | c
      · exact absurd (nI_lt (b := 3000) c (by decide)) z
      · omega
    unfold cdA
    rw [if_neg (by omega)]
    refine ⟨rfl, ?_, Fr.rf, h9, hl, hr⟩
    rw [c]
    rfl
/-- a jump that lands -/
def cdL (C : List cdE) (j : Nat) : List cdE := match C[j]? with
  | some e => C.set j (e.1, lN C.length, e.2.2)
  | none => C
theorem p_land {d j : Nat} {C : List cdE} {σ : fkS} (h : CR C σ) (hj : j < C.length) : Dv d 193 [.ref 75, .int (nI j)] σ (fun s => Fr fkCR σ s ∧ CR (cdL C j) s) := by
  obtain ⟨h9, hl, hr⟩ := h
  have e0 : C[j]? = some C[j] := List.getElem?_eq_getElem hj
  have e : (nI j).toNatClampNeg = j := nI_clamp (by omega)
  refine S_Program_land ?_
  rw [h9, e, nI_l (by omega)]
  refine ⟨vp_in_nI (by omega) (by decide), rfl, Fr.rf.sL rfl, ?_⟩
  unfold cdL
  rw [e0]
  refine ⟨?_, ?_, fun i q hq => ?_⟩
  · rw [List.length_set]; exact h9
  · rw [List.length_set]; exact hl
  · rw [List.getElem?_set] at hq
    by_cases c : j = i
    · subst c
      rw [if_pos rfl, if_pos hj] at hq
      have : (C[j].1, lN C.length, C[j].2.2) = q := Option.some.inj hq
      subst this
      obtain ⟨a1, a2, a3, a4⟩ := hr j _ e0
      exact ⟨a1, sL_ss, a3, a4⟩
    · rw [if_neg c] at hq
      obtain ⟨a1, a2, a3, a4⟩ := hr i q hq
      exact ⟨a1, (sL_so (Ne.symm c)).trans a2, a3, a4⟩
