/-! THE REFERENCE asks whether a word is a NAME -/
/-- where keyword m stands in the reference's row of them -/
def wof (m : Nat) : Nat := ((kws.take m).map (fun w => w.length + 1)).sum
theorem wof_all : ((List.range 14).all (fun m => (List.range (kws.getD m []).length).all (fun j => decide (sch 4 (wof m + j) = nI ((kws.getD m []).getD j 0) ∧ ¬ sch 4 (wof m + j) = 32 ∧ (kws.getD m []).getD j 0 < 256)) && decide (sch 4 (wof m + (kws.getD m []).length) = 32 ∧ wof m + (kws.getD m []).length < fk_ln 4 ∧ wof (m + 1) = wof m + (kws.getD m []).length + 1)) && decide (wof 14 = fk_ln 4)) = true := by decide +kernel
theorem wof_end : wof 14 = fk_ln 4 := by
  have h := wof_all
  rw [Bool.and_eq_true] at h
  exact of_decide_eq_true h.2
theorem wof_sp {m : Nat} (hm : m < 14) : sch 4 (wof m + (kws.getD m []).length) = 32 ∧ wof m + (kws.getD m []).length < fk_ln 4 ∧ wof (m + 1) = wof m + (kws.getD m []).length + 1 := by
  have h := wof_all
  rw [Bool.and_eq_true] at h
  have h2 := List.all_eq_true.mp h.1 m (List.mem_range.mpr hm)
  rw [Bool.and_eq_true] at h2
  exact of_decide_eq_true h2.2
theorem wof_ch {m j : Nat} (hm : m < 14) (hj : j < (kws.getD m []).length) : sch 4 (wof m + j) = nI ((kws.getD m []).getD j 0) ∧ ¬ sch 4 (wof m + j) = 32 ∧ (kws.getD m []).getD j 0 < 256 := by
  have h := wof_all
  rw [Bool.and_eq_true] at h
  have h2 := List.all_eq_true.mp h.1 m (List.mem_range.mpr hm)
  rw [Bool.and_eq_true] at h2
  exact of_decide_eq_true (List.all_eq_true.mp h2.1 j (List.mem_range.mpr hj))
section MN
variable {d n a b : Nat} {t : Nat → UInt8} {σ : fkS} {Q : Option Value → fkS → Prop}
/-- comparing with keyword m -/
theorem m_in68 {m : Nat} (hm : m < 14) (h : PTm t n σ) (h3 : σ.1 103 83 = nI a) (h4 : σ.1 103 84 = nI (b - a)) (hab : a ≤ b) (hbn : b ≤ n)
    (h0 : tw t a b = kws.getD m [] → Q (some (.int 0)) σ) (hN : ¬ tw t a b = kws.getD m [] → Wq 334 (d + 4) 19 [some (.ref 103), some (.int (nI (wof (m + 1)))), none, none, none] [] σ Q) :
    ∀ (r k : Nat) (f : Int32), b - a - k < r → k ≤ b - a → (f = 0 ∧ ¬ tw t a b = kws.getD m [] ∨ f = 1 ∧ b - a = (kws.getD m []).length ∧ ∀ j, j < k → (t (a + j)).toNat = (kws.getD m []).getD j 0) →
    Wq 334 (d + 4) 68 [some (.ref 103), some (.int (nI (wof m))), some (.int (nI (wof m + (kws.getD m []).length))), some (.int f), some (.int (nI k))] [] σ Q := by
  have hn := h.2.2
  have hsp := wof_sp hm
  have hl4 : fk_ln 4 < 128 := sch_ln (by decide)
  have e1 : nI (wof m + (kws.getD m []).length) + 1 = nI (wof (m + 1)) := by
    rw [hsp.2.2]
    exact (nI_succ _).symm
  intro r
  induction r with
  | zero => intro k f hr; omega
  | succ r ih =>
    intro k f hr hk hf
    refine S_M_isName_68 ?_
    rw [h4, e1]
    refine ⟨fun z => ⟨fun z2 => ?_, fun z2 => ?_⟩, fun z => ⟨fun z2 => ⟨fun _ => ?_, fun z3 => absurd z2 z3⟩, fun z2 => ?_⟩⟩
    · rcases hf with ⟨-, c⟩ | ⟨c, -⟩
      · exact hN c
      · rw [c] at z2; exact absurd z2 (by decide)
    · have ek : k = b - a := by
        rcases Nat.lt_or_ge k (b - a) with c | c
        · exact absurd z (nI_ge c (by omega))
        · omega
      rcases hf with ⟨c, -⟩ | ⟨-, c1, c2⟩
      · exact absurd c z2
      · refine h0 (List.ext_getElem (by rw [tw_len]; exact c1) fun j h1 h2 => ?_)
        rw [tw_get h1, c2 j (by omega), List.getD_eq_getElem?_getD, List.getElem?_eq_getElem h2]
        rfl
    · rcases hf with ⟨-, c⟩ | ⟨c, -⟩
      · exact hN c
      · rw [c] at z2; exact absurd z2 (by decide)
    · have ck : k < b - a := by
        rcases Nat.lt_or_ge k (b - a) with c | c
        · exact c
        · exact absurd (nI_le c (by omega)) z
      rcases hf with ⟨c, -⟩ | ⟨-, c1, c2⟩
      · exact absurd c z2
      · have ckl : k < (kws.getD m []).length := by omega
        obtain ⟨w1, -, w3⟩ := wof_ch hm ckl
        rw [nI_add]
        refine rg_S (i := 4) (by decide) ((s_charAt (d := d) (i := 4) (by decide) (k := wof m + k) (by omega)).mono fun x s hx => ?_)
        obtain ⟨v, rfl, rfl, rfl⟩ := Qi_s hx
        show _ ∧ _ ∧ _
        have ht := (t (a + k)).toNat_lt
        have e3 : nI k + 1 = nI (k + 1) := (nI_succ k).symm
        have e2 : s.1 154 (nI (a + k)).toNatClampNeg = nI (t (a + k)).toNat := by
          rw [nI_clamp (by omega)]
          exact h.2.1 _ (by omega)
        rw [h3, nI_add, e2, w1, e3]
        refine ⟨vp_in_nI (by omega) (by omega), fun z3 => ?_, fun z3 => ?_⟩
        · refine ih (k + 1) 0 (by omega) ck (Or.inl ⟨rfl, fun e => z3 ?_⟩)
          have e5 : (tw t a b)[k]? = (kws.getD m [])[k]? := by rw [e]
          rw [List.getElem?_eq_getElem (by rw [tw_len]; exact ck), tw_get] at e5
          rw [List.getD_eq_getElem?_getD, ← e5]
          rfl
        · refine ih (k + 1) 1 (by omega) ck (Or.inr ⟨rfl, c1, fun j hj => ?_⟩)
          rcases Nat.lt_or_ge j k with c | c
          · exact c2 j c
          · have : j = k := by omega
            subst this
            exact ((nI_eq (by omega) (by omega)).mp z3).symm
/-- to the end of keyword m -/
theorem m_in31 {m : Nat} (hm : m < 14) (h : PTm t n σ) (h3 : σ.1 103 83 = nI a) (h4 : σ.1 103 84 = nI (b - a)) (hab : a ≤ b) (hbn : b ≤ n)
    (h0 : tw t a b = kws.getD m [] → Q (some (.int 0)) σ) (hN : ¬ tw t a b = kws.getD m [] → Wq 334 (d + 4) 19 [some (.ref 103), some (.int (nI (wof (m + 1)))), none, none, none] [] σ Q) :
    ∀ (r j : Nat), (kws.getD m []).length - j < r → j ≤ (kws.getD m []).length → Wq 334 (d + 4) 31 [some (.ref 103), some (.int (nI (wof m))), some (.int (nI (wof m + j))), none, none] [] σ Q := by
  have hn := h.2.2
  have hsp := wof_sp hm
  have hl4 : fk_ln 4 < 128 := sch_ln (by decide)
  intro r
  induction r with
  | zero => intro j hr; omega
  | succ r ih =>
    intro j hr hj
    refine S_M_isName_31 (rg_S (i := 4) (by decide) ((s_charAt (d := d) (i := 4) (by decide) (k := wof m + j) (by omega)).mono fun x s hx => ?_))
    obtain ⟨v, rfl, rfl, rfl⟩ := Qi_s hx
    show _ ∧ _
    have e1 : nI (wof m + j) + 1 = nI (wof m + (j + 1)) := (nI_succ (wof m + j)).symm
    rw [e1, h4, nI_sub (Nat.le_add_right _ _), Nat.add_sub_cancel_left]
    refine ⟨fun z => ?_, fun z => ?_⟩
    · have ej : j = (kws.getD m []).length := by
        rcases Nat.lt_or_ge j (kws.getD m []).length with c | c
        · exact absurd z (wof_ch hm c).2.1
        · omega
      subst ej
      refine ⟨fun z2 => ?_, fun z2 => ?_⟩
      · refine m_in68 hm h h3 h4 hab hbn h0 hN (b - a + 1) 0 0 (by omega) (Nat.zero_le _) (Or.inl ⟨rfl, fun e => z2 ?_⟩)
        have e5 := congrArg List.length e
        rw [tw_len] at e5
        rw [e5]
      · exact m_in68 hm h h3 h4 hab hbn h0 hN (b - a + 1) 0 1 (by omega) (Nat.zero_le _) (Or.inr ⟨rfl, ((nI_eq (by omega) (by omega)).mp z2).symm, fun j hj => by omega⟩)
    · have cj : j < (kws.getD m []).length := by
        rcases Nat.lt_or_ge j (kws.getD m []).length with c | c
        · exact c
        · have : j = (kws.getD m []).length := by omega
          rw [this] at z
          exact absurd hsp.1 z
      exact ih (j + 1) (by omega) cj
theorem m_in19 (h : PTm t n σ) (h3 : σ.1 103 83 = nI a) (h4 : σ.1 103 84 = nI (b - a)) (hab : a ≤ b) (hbn : b ≤ n)
    (h0 : (∃ j, j < 14 ∧ tw t a b = kws.getD j []) → Q (some (.int 0)) σ) (h1 : (∀ j, j < 14 → ¬ tw t a b = kws.getD j []) → Q (some (.int 1)) σ) :
    ∀ (r m : Nat), r + m = 14 → (∀ j, j < m → ¬ tw t a b = kws.getD j []) → Wq 334 (d + 4) 19 [some (.ref 103), some (.int (nI (wof m))), none, none, none] [] σ Q := by
  have hl4 : fk_ln 4 < 128 := sch_ln (by decide)
  intro r
  induction r with
  | zero =>
    intro m hm hno
    have : m = 14 := by omega
    subst this
    refine S_M_isName_19 (rg_S (i := 4) (by decide) ((s_length (i := 4) (by decide)).mono fun x s hx => ?_))
    obtain ⟨v, rfl, rfl, rfl⟩ := Qi_s hx
    refine ⟨fun _ => h1 hno, fun z => ?_⟩
    exact absurd (by rw [wof_end]; exact Int32.le_refl _) z
  | succ r ih =>
    intro m hm hno
    have hm14 : m < 14 := by omega
    have hsp := wof_sp hm14
    refine S_M_isName_19 (rg_S (i := 4) (by decide) ((s_length (i := 4) (by decide)).mono fun x s hx => ?_))
    obtain ⟨v, rfl, rfl, rfl⟩ := Qi_s hx
    refine ⟨fun z => absurd z (nI_ge (by omega) (by omega)), fun _ => ?_⟩
    refine m_in31 hm14 h h3 h4 hab hbn (fun e => h0 ⟨m, hm14, e⟩) (fun e => ih (m + 1) (by omega) fun j hj => ?_) ((kws.getD m []).length + 1) 0 (by omega) (Nat.zero_le _)
    rcases Nat.lt_or_ge j m with c | c
    · exact hno j c
    · have : j = m := by omega
      subst this
      exact e
/-- whether the TOKEN is a NAME -/
theorem m_isName {q : Nat × Nat × Nat × Nat} (h : PTm t n σ) (hq : TkM t q σ) (hk4 : q.1 ≤ 4) (hle : q.2.1 ≤ q.2.2.1) (hln : q.2.2.1 ≤ n) : Ci (d + 4) 334 [.ref 103] σ (fun x s => s = σ ∧ (σ.1 103 81 < 0 ∧ q.1 = 1 ∧ (∀ j, j < 14 → ¬ tw t q.2.1 q.2.2.1 = kws.getD j []) → x = 1) ∧ (¬ (σ.1 103 81 < 0 ∧ q.1 = 1 ∧ (∀ j, j < 14 → ¬ tw t q.2.1 q.2.2.1 = kws.getD j [])) → x = 0)) := by
  refine S_M_isName ⟨fun z => ⟨rfl, fun c => absurd z (Int32.not_le.mpr c.1), fun _ => rfl⟩, fun z => ?_⟩
  have z' : σ.1 103 81 < 0 := Int32.not_le.mp z
  rw [hq.1]
  refine ⟨fun z2 => ?_, fun z2 => ⟨rfl, fun c => absurd ((mK_1 hk4).mpr c.2.1) z2, fun _ => rfl⟩⟩
  have k1 := (mK_1 hk4).mp z2
  exact m_in19 h hq.2.1 (hq.2.2.2.1 k1) hle hln (fun e => ⟨rfl, fun c => by obtain ⟨j, hj, e⟩ := e; exact absurd e (c.2.2 j hj), fun _ => rfl⟩) (fun e => ⟨rfl, fun _ => rfl, fun c => absurd ⟨z', k1, e⟩ c⟩) 14 0 rfl (fun j hj => by omega)
end MN
