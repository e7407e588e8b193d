/-! the class's words -/
theorem kws_all : (List.range 14).all (fun k => decide ((kws.getD k []).length ≤ 5) && (kws.getD k []).all (fun c => cW c) && (List.range 5).all (fun m => decide (sch 0 (5 * k + m) = nI ((kws.getD k []).getD m 32) ∧ 5 * k + m < fk_ln 0 ∧ (kws.getD k []).getD m 32 < 256))) = true := by decide +kernel
theorem kws_at {k m : Nat} (hk : k < 14) (hm : m < 5) : sch 0 (5 * k + m) = nI ((kws.getD k []).getD m 32) ∧ 5 * k + m < fk_ln 0 ∧ (kws.getD k []).getD m 32 < 256 := by
  have h := List.all_eq_true.mp kws_all k (List.mem_range.mpr hk)
  simp only [Bool.and_eq_true] at h
  exact of_decide_eq_true (List.all_eq_true.mp h.2 m (List.mem_range.mpr hm))
theorem kws_len {k : Nat} (hk : k < 14) : (kws.getD k []).length ≤ 5 ∧ 32 ∉ kws.getD k [] := by
  have h := List.all_eq_true.mp kws_all k (List.mem_range.mpr hk)
  simp only [Bool.and_eq_true] at h
  exact ⟨of_decide_eq_true h.1.1, fun z => absurd (List.all_eq_true.mp h.1.2 32 z) (by decide)⟩
/-- words of five signs at most, filled up with blanks -/
theorem pad_eq {v w : List Nat} (hv : v.length ≤ 5) (hw : w.length ≤ 5) (nv : 32 ∉ v) (nw : 32 ∉ w) (h : ∀ m, m < 5 → v.getD m 32 = w.getD m 32) : v = w := by
  have key : ∀ {a b : List Nat}, 32 ∉ a → (∀ m, m < 5 → a.getD m 32 = b.getD m 32) → a.length ≤ 5 → a.length ≤ b.length := by
    intro a b na he hl
    rcases Nat.lt_or_ge b.length a.length with c | c
    · have e := he b.length (by omega)
      rw [List.getD_eq_getElem?_getD, List.getD_eq_getElem?_getD, List.getElem?_eq_getElem c, List.getElem?_eq_none (Nat.le_refl _)] at e
      have e2 : a[b.length] = 32 := e
      exact absurd (e2 ▸ List.getElem_mem c) na
    · exact c
  have hl : v.length = w.length := Nat.le_antisymm (key nv h hv) (key nw (fun m hm => (h m hm).symm) hw)
  apply List.ext_getElem hl
  intro m h1 h2
  have e := h m (by omega)
  rw [List.getD_eq_getElem?_getD, List.getD_eq_getElem?_getD, List.getElem?_eq_getElem h1, List.getElem?_eq_getElem h2] at e
  exact e
theorem tw_len (t : Nat → UInt8) (i j : Nat) : (tw t i j).length = j - i := by unfold tw; simp
theorem tw_at {t : Nat → UInt8} {i j m : Nat} (h : i + m < j) : (tw t i j).getD m 32 = (t (i + m)).toNat := by
  unfold tw
  rw [List.getD_eq_getElem?_getD, List.getElem?_map, List.getElem?_range (by omega)]
  rfl
theorem tw_out {t : Nat → UInt8} {i j m : Nat} (h : j ≤ i + m) : (tw t i j).getD m 32 = 32 := by
  rw [List.getD_eq_getElem?_getD, List.getElem?_eq_none (by rw [tw_len]; omega)]
  rfl
theorem tw_no {t : Nat → UInt8} {i j : Nat} (h : ∀ m, i ≤ m → m < j → cW (t m).toNat = true) : 32 ∉ tw t i j := by
  intro z
  unfold tw at z
  obtain ⟨m, hm, e⟩ := List.mem_map.mp z
  have := h (i + m) (by omega) (by have := List.mem_range.mp hm; omega)
  rw [e] at this
  exact absurd this (by decide)
section KW
variable {d n a j k : Nat} {t : Nat → UInt8} {σ : fkS}
theorem p_kwLoop (h : PTx t n σ) (h3 : σ.1 88 3 = nI j) (ha : σ.1 88 10 = nI a) (haj : a ≤ j) (hj : j ≤ n) (hk : k < 14) (h5 : j - a ≤ 5) (hw : ∀ m, a ≤ m → m < j → cW (t m).toNat = true) :
    ∀ (q m : Nat), 5 - m < q → m ≤ 5 → (∀ r, r < m → (tw t a j).getD r 32 = (kws.getD k []).getD r 32) → Wq 154 (d + 4) 17 [some (.ref 88), some (.int (nI k)), some (.int (nI m)), none] [] σ (Qi (fun x s => s.2.2 = σ.2.2 ∧ s = σ ∧ x = if tw t a j = kws.getD k [] then 1 else 0)) := by
  have hn := h.2.2.2
  obtain ⟨kl, kn⟩ := kws_len hk
  intro q
  induction q with
  | zero => intro m hm; omega
  | succ q ih =>
    intro m hm hm5 hr
    refine S_Parser_isKeyword_17 ⟨fun z => ?_, fun z => ?_⟩
    · have e : m = 5 := by
        rcases Nat.lt_or_ge m 5 with c | c
        · exact absurd z (nI_ge (b := 5) c (by decide))
        · omega
      subst e
      refine ⟨rfl, rfl, ?_⟩
      rw [if_pos (pad_eq (by rw [tw_len]; exact h5) kl (tw_no hw) kn hr)]
    · have hm2 : m < 5 := by
        rcases Nat.lt_or_ge m 5 with c | c
        · exact c
        · exact absurd (nI_le c (by omega)) z
      obtain ⟨k1, k2, k3⟩ := kws_at hk hm2
      have ex : nI k * 5 + nI m = nI (5 * k + m) := by
        rw [show (5 : Int32) = nI 5 from rfl, nI_mul, nI_add, Nat.mul_comm]
      have cmp : ∀ (c : Nat), c < 256 → (tw t a j).getD m 32 = c → Wq 154 (d + 4) 50 [some (.ref 88), some (.int (nI k)), some (.int (nI m)), none] [.int (nI c)] σ (Qi (fun x s => s.2.2 = σ.2.2 ∧ s = σ ∧ x = if tw t a j = kws.getD k [] then 1 else 0)) := by
        intro c hc he
        refine S_Parser_isKeyword_50 ?_
        rw [ex]
        refine rg_S (i := 0) (by decide) (((s_charAt (d := d) (i := 0) (by decide) k2).mono fun x s hx => ?_))
        obtain ⟨v1, rfl, rfl, rfl⟩ := Qi_s hx
        refine ⟨rfl, ?_⟩
        simp only [sW_eq (rfl : s.2.2 = s.2.2)]
        rw [k1]
        refine ⟨fun z2 => ?_, fun z2 => ⟨rfl, rfl, ?_⟩⟩
        · have e1 := (nI_eq (by omega) (by omega)).mp z2
          have e2 : nI m + 1 = nI (m + 1) := (nI_succ m).symm
          rw [e2]
          refine ih (m + 1) (by omega) hm2 fun r hr2 => ?_
          rcases Nat.lt_or_ge r m with c2 | c2
          · exact hr r c2
          · have : r = m := by omega
            subst this
            rw [he, e1]
        · rw [if_neg]
          intro e
          rw [e] at he
          exact z2 (by rw [he])
      rw [h3, ha, nI_add]
      refine ⟨fun z2 => ?_, fun z2 => ?_⟩
      · have c : j ≤ a + m := by
          rcases Nat.lt_or_ge (a + m) j with c | c
          · exact absurd z2 (nI_ge c (by omega))
          · exact c
        exact cmp 32 (by omega) (tw_out c)
      · have c : a + m < j := by
          rcases Nat.lt_or_ge (a + m) j with c | c
          · exact c
          · exact absurd (nI_le c (by omega)) z2
        refine (p_byte (i := a + m) h (by omega)).mono fun x s hx => ?_
        obtain ⟨v1, rfl, e1, rfl, rfl⟩ := Qi_s hx
        refine ⟨e1, ?_⟩
        simp only [sW_eq e1]
        have e2 : bX t n (a + m) = nI (t (a + m)).toNat := by unfold bX; rw [if_pos (by omega)]; rfl
        rw [e2]
        exact cmp _ (t (a + m)).toNat_lt (tw_at c)
theorem p_isKw (h : PTx t n σ) (h3 : σ.1 88 3 = nI j) (ha : σ.1 88 10 = nI a) (haj : a ≤ j) (hj : j ≤ n) (hk : k < 14) (hw : ∀ m, a ≤ m → m < j → cW (t m).toNat = true) : Di (d + 4) 154 [.ref 88, .int (nI k)] σ (fun x s => s = σ ∧ x = if tw t a j = kws.getD k [] then 1 else 0) := by
  have hn := h.2.2.2
  refine S_Parser_isKeyword ?_
  rw [h3, ha, nI_sub haj]
  refine ⟨fun z => ?_, fun z => ⟨rfl, rfl, ?_⟩⟩
  · have c : j - a ≤ 5 := by
      rcases Nat.lt_or_ge 5 (j - a) with c | c
      · exact absurd z (nI_ge (a := 5) c (by omega))
      · exact c
    exact p_kwLoop h h3 ha haj hj hk c hw 6 0 (by omega) (by omega) (fun r hr => by omega)
  · rw [if_neg]
    intro e
    have e2 := congrArg List.length e
    rw [tw_len] at e2
    have := (kws_len hk).1
    exact z (nI_le (b := 5) (by omega) (by omega))
end KW
