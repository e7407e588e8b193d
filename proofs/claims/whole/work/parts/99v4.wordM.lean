/-! THE REFERENCE asks for a keyword -/
section MW
variable {d n : Nat} {t : Nat → UInt8} {σ : fkS} {q : Nat × Nat × Nat × Nat} {i : Nat} {w : List Nat}
theorem lw_len (hw : fk_bt i = w.map nI) : fk_ln i = w.length := by
  unfold fk_ln
  rw [hw, List.length_map]
theorem lw_at (hw : fk_bt i = w.map nI) {k : Nat} (hk : k < w.length) : sch i k = nI w[k] := by
  unfold sch
  rw [hw, List.getD_eq_getElem?_getD, List.getElem?_map, List.getElem?_eq_getElem hk]
  rfl
theorem tw_get {a b k : Nat} (hk : k < (tw t a b).length) : (tw t a b)[k] = (t (a + k)).toNat := by
  have h2 : k < b - a := by rw [← tw_len t a b]; exact hk
  rw [List.getElem_eq_iff]
  unfold tw
  rw [List.getElem?_map, List.getElem?_range h2]
  rfl
theorem mK_1 (h4 : q.1 ≤ 4) : mK q = 1 ↔ q.1 = 1 := by
  unfold mK
  by_cases c : q.1 = 4
  · rw [if_pos c]
    exact ⟨fun z => absurd z (by decide), fun z => by omega⟩
  · rw [if_neg c]
    exact nI_eq (b := 1) (by omega) (by decide)
/-- no more: the answer is 0 -/
theorem m_iw0 (hi : i < fk_nL) {k : Int32} {Q : Option Value → fkS → Prop} (hQ : Q (some (.int 0)) σ) : Wq 331 (d + 4) 34 [some (.ref 103), some (.ref (2000 + i)), some (.int (0 : Int32)), some (.int k)] [] σ Q := by
  refine S_M_isWord_34 (rg_S hi ((s_length hi).mono fun x s hx => ?_))
  obtain ⟨v, rfl, rfl, rfl⟩ := Qi_s hx
  exact ⟨fun _ => fk_bz_i (Or.inl rfl) hQ, fun _ => ⟨fun _ => fk_bz_i (Or.inl rfl) hQ, fun z => absurd rfl z⟩⟩
theorem m_iw1 (hi : i < fk_nL) (hw : fk_bt i = w.map nI) (hb : ∀ c ∈ w, c < 256) (h : PTm t n σ) (h3 : σ.1 103 83 = nI q.2.1) (hle : q.2.1 ≤ q.2.2.1) (hln : q.2.2.1 ≤ n) (hsz : q.2.2.1 - q.2.1 = w.length) {Q : Option Value → fkS → Prop}
    (hQ : ∀ v : Int32, v = (if tw t q.2.1 q.2.2.1 = w then 1 else 0) → Q (some (.int v)) σ) : ∀ (m k : Nat), w.length - k < m → k ≤ w.length → (∀ j, j < k → ∀ hj : j < w.length, (t (q.2.1 + j)).toNat = w[j]) → Wq 331 (d + 4) 34 [some (.ref 103), some (.ref (2000 + i)), some (.int (1 : Int32)), some (.int (nI k))] [] σ Q := by
  have hn := h.2.2
  have hlw := lw_len hw
  have hl128 := sch_ln hi
  intro m
  induction m with
  | zero => intro k hm; omega
  | succ m ih =>
    intro k hm hk hall
    refine S_M_isWord_34 (rg_S hi ((s_length hi).mono fun x s hx => ?_))
    obtain ⟨v, rfl, rfl, rfl⟩ := Qi_s hx
    refine ⟨fun z => fk_bz_i (Or.inr rfl) (hQ 1 ?_), fun z => ⟨fun z2 => absurd z2 (by decide), fun _ => ?_⟩⟩
    · have e : k = w.length := by
        rcases Nat.lt_or_ge k w.length with c | c
        · exact absurd z (nI_ge (b := fk_ln i) (by omega) (by omega))
        · omega
      rw [if_pos]
      refine List.ext_getElem (by rw [tw_len]; exact hsz) fun j h1 h2 => ?_
      rw [tw_get h1]
      exact hall j (by omega) h2
    · have c : k < w.length := by
        rcases Nat.lt_or_ge k w.length with c | c
        · exact c
        · exact absurd (nI_le (a := fk_ln i) (b := k) (by omega) (by omega)) z
      rw [h3, nI_add]
      refine ⟨vp_in_nI (by omega) (by omega), rg_S hi ((s_charAt hi (by omega)).mono fun x s2 hx => ?_)⟩
      obtain ⟨v, rfl, rfl, rfl⟩ := Qi_s hx
      show _ ∧ _
      have hb2 := hb _ (List.getElem_mem c)
      have ht := (t (q.2.1 + k)).toNat_lt
      have e0 : nI k + 1 = nI (k + 1) := (nI_succ k).symm
      have e1 : s2.1 154 (nI (q.2.1 + k)).toNatClampNeg = nI (t (q.2.1 + k)).toNat := by
        rw [nI_clamp (by omega)]
        exact h.2.1 _ (by omega)
      rw [e1, lw_at hw c, e0]
      refine ⟨fun z2 => m_iw0 hi (hQ 0 ?_), fun z2 => ?_⟩
      · rw [if_neg]
        intro e
        refine z2 ?_
        have e3 : (tw t q.2.1 q.2.2.1)[k]'(by rw [tw_len]; omega) = w[k] := by simp only [e]
        rw [tw_get] at e3
        rw [e3]
      · have e3 := (nI_eq (by omega) (by omega)).mp z2
        refine ih (k + 1) (by omega) c fun j hj hj2 => ?_
        rcases Nat.lt_or_ge j k with c2 | c2
        · exact hall j c2 hj2
        · have : j = k := by omega
          subst this
          exact e3
/-- whether the TOKEN is this keyword -/
theorem m_isWord (hi : i < fk_nL) (hw : fk_bt i = w.map nI) (hb : ∀ c ∈ w, c < 256) (h : PTm t n σ) (hq : TkM t q σ) (h4 : q.1 ≤ 4) (hle : q.2.1 ≤ q.2.2.1) (hln : q.2.2.1 ≤ n) : Ci (d + 4) 331 [.ref 103, .ref (2000 + i)] σ (fun x s => s = σ ∧ x = if σ.1 103 81 < 0 ∧ q.1 = 1 ∧ tw t q.2.1 q.2.2.1 = w then 1 else 0) := by
  have hn := h.2.2
  have hlw := lw_len hw
  have hl128 := sch_ln hi
  have no : ¬ (σ.1 103 81 < 0 ∧ q.1 = 1 ∧ tw t q.2.1 q.2.2.1 = w) → Wq 331 (d + 4) 34 [some (.ref 103), some (.ref (2000 + i)), some (.int (0 : Int32)), some (.int (0 : Int32))] [] σ (Qi (fun x s => s = σ ∧ x = if σ.1 103 81 < 0 ∧ q.1 = 1 ∧ tw t q.2.1 q.2.2.1 = w then 1 else 0)) := by
    intro c
    rw [if_neg c]
    exact m_iw0 hi ⟨rfl, rfl⟩
  refine S_M_isWord ⟨fun z => no fun c => absurd z (Int32.not_le.mpr c.1), fun z => ?_⟩
  have z' : σ.1 103 81 < 0 := Int32.not_le.mp z
  rw [hq.1]
  refine ⟨fun z2 => no fun c => z2 ((mK_1 h4).mpr c.2.1), fun z2 => ?_⟩
  have k1 := (mK_1 h4).mp z2
  refine rg_S hi ((s_length hi).mono fun x s hx => ?_)
  obtain ⟨v, rfl, rfl, rfl⟩ := Qi_s hx
  show _ ∧ _
  rw [hq.2.2.2.1 k1]
  refine ⟨fun z3 => no fun c => z3 ?_, fun z3 => ?_⟩
  · have e := congrArg List.length c.2.2
    rw [tw_len] at e
    rw [e, hlw]
  · have e := (nI_eq (by omega) (by omega)).mp z3
    refine m_iw1 hi hw hb h hq.2.1 hle hln (by omega) (fun v hv => ⟨rfl, ?_⟩) (w.length + 1) 0 (by omega) (Nat.zero_le _) (fun j hj => by omega)
    rw [hv]
    by_cases c : tw t q.2.1 q.2.2.1 = w
    · rw [if_pos c, if_pos ⟨z', k1, c⟩]
    · rw [if_neg c, if_neg (fun y => c y.2.2)]
end MW
