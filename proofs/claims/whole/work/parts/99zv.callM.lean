/-! THE REFERENCE runs: CALLS begin -/
section BM
variable {σ0 σ : fkS} {A : List Int32} {F : List (Int32 × List Int32)} {s : rwS} {p : Int32} {d f tk : Nat} {R : List Int32}
/-- places of a CALL that is to begin -/
theorem WM.new {j : Nat} {v : Int32} (h : WM σ0 A F s p σ) : WM σ0 A F s p (sI σ 187 (500 * F.length + j) v) := by
  obtain ⟨h1, ⟨c1, c2, c3⟩, h3, h4, h5, h6, h7⟩ := h
  have f0 : Fr (fun c _ => Nat.beq c 187) σ (sI σ 187 (500 * F.length + j) v) := Fr.rf.sI rfl
  refine ⟨h1.fr f0 rfl (fun _ => rfl), ⟨(f0 103 136 rfl).1.trans c1, c2, fun i q hq => ?_⟩, h3.fr f0 rfl rfl rfl (fun _ => rfl) (fun _ => rfl), (f0 103 142 rfl).1.trans h4, (f0 103 138 rfl).1.trans h5, h6, h7.tr (Fr.rf.sI rfl)⟩
  obtain ⟨g1, g2, g3⟩ := c3 i q hq
  have il := (List.getElem?_eq_some_iff.mp hq).1
  rw [List.length_reverse] at il
  refine ⟨(f0 188 i rfl).1.trans g1, g2, fun k u hu => ?_⟩
  have kl := (List.getElem?_eq_some_iff.mp hu).1
  rw [List.length_reverse] at kl
  exact (sI_so (by omega)).trans (g3 k u hu)
/-- ARGUMENTS taken so far -/
def BG (σ0 : fkS) (A : List Int32) (F : List (Int32 × List Int32)) (s : rwS) (p : Int32) (R : List Int32) (k : Nat) (σ : fkS) : Prop := WM σ0 A F s p σ ∧ σ.1 188 F.length = p ∧ (∀ j v, R[j]? = some v → σ.1 186 (A.length + j) = v) ∧ ∀ j v, j < k → R[j]? = some v → σ.1 187 (500 * F.length + j) = v
theorem w_78 {st : Nat} (h3 : σ0.1 183 f = nI st) (h4 : σ0.1 184 f = nI tk) (hf : f < 20) (ht : tk ≤ 4) (hF : F.length < 60) (hA : A.length + tk ≤ 12000) (hR : R.length = tk) : ∀ m k σ, k + m = tk → BG σ0 A F s p R k σ → Wq 363 d 78 [some (.ref 103), some (.int (nI f)), some (.int (nI k))] [] σ (Qv (fun σ' => WM σ0 A ((p, R.reverse) :: F) (s.1, s.2.1, max s.2.2 (F.length + 1)) (nI st) σ')) := by
  have cf : (nI f).toNatClampNeg = f := nI_clamp (by omega)
  have vf : vp_in (nI f) 20 := vp_in_nI hf (by decide)
  intro m
  induction m with
  | zero =>
    intro k σ hk h
    have : k = tk := hk
    subst this
    obtain ⟨⟨⟨a1, a2, a3⟩, ⟨c1, c2, c3⟩, ⟨b1, b2, b3, b4, b5, b6, b7⟩, e4, e5, e6, e7⟩, g2, g3, g4⟩ := h
    have e3 : σ.1 183 f = nI st := (e7 183 f rfl).1.trans h3
    have e34 : σ.1 184 f = nI k := (e7 184 f rfl).1.trans h4
    have fin : ∀ σ', (∀ S : Nat → Nat → Bool, S 103 136 = true → S 103 137 = true → S 103 142 = true → Fr S σ σ') → σ'.2.2 = σ.2.2 → σ'.1 103 136 = nI (F.length + 1) → σ'.1 103 137 = nI (max s.2.2 (F.length + 1)) → σ'.1 103 142 = nI st → WM σ0 A ((p, R.reverse) :: F) (s.1, s.2.1, max s.2.2 (F.length + 1)) (nI st) σ' := by
      intro σ' hf' hr' x6 x7 x2
      have f0 := hf' (fun c j => Nat.beq c 103 && (Nat.beq j 136 || Nat.beq j 137 || Nat.beq j 142)) rfl rfl rfl
      refine ⟨YS.fr ⟨a1, a2, a3⟩ f0 rfl (fun _ => rfl), ⟨x6, hF, fun i q hq => ?_⟩, ⟨(f0 103 134 rfl).1.trans b1, b2, fun i q hq => ⟨(f0 189 i rfl).1.trans (b3 i q hq).1, (f0 190 i rfl).1.trans (b3 i q hq).2⟩, (f0 103 135 rfl).1.trans b4, b5, x7, Nat.max_le.mpr ⟨b7, hF⟩⟩, x2, (f0 103 138 rfl).1.trans e5, hr'.trans e6, e7.tr (hf' fkYC rfl rfl rfl)⟩
      rcases rev_last hq with ⟨c, hq⟩ | ⟨c, hq⟩
      · obtain ⟨g1, g2, g3⟩ := c3 i q hq
        exact ⟨(f0 188 i rfl).1.trans g1, g2, fun j u hu => (f0 187 _ rfl).1.trans (g3 j u hu)⟩
      · subst hq
        subst c
        refine ⟨(f0 188 _ rfl).1.trans g2, by show R.reverse.length ≤ 500; rw [List.length_reverse]; omega, fun j u hu => ?_⟩
        have hu' : R.reverse.reverse[j]? = some u := hu
        rw [List.reverse_reverse] at hu'
        exact (f0 187 _ rfl).1.trans (g4 j u (by have := (List.getElem?_eq_some_iff.mp hu').1; omega) hu')
    refine S_M_begins_78 ⟨vf, fun _ => ⟨fun y => ⟨vf, ?_⟩, fun y => ⟨vf, ?_⟩⟩, fun y => ?_⟩
    · rw [c1, cf, e3, (nI_succ F.length).symm]
      rw [c1, b6, (nI_succ F.length).symm] at y
      have le : F.length + 1 ≤ s.2.2 := by
        rcases Nat.lt_or_ge s.2.2 (F.length + 1) with c | c
        · exact absurd y (nI_ge c (by omega))
        · exact c
      refine fin _ (fun S z1 z2 z3 => (Fr.rf.sI z1).sI z3) rfl ((sI_so (by decide)).trans sI_ss) ?_ sI_ss
      rw [Nat.max_eq_left le]
      exact (sI_so (by decide)).trans ((sI_so (by decide)).trans b6)
    · rw [c1, cf, e3, (nI_succ F.length).symm]
      rw [c1, b6, (nI_succ F.length).symm] at y
      have lt : s.2.2 < F.length + 1 := by
        rcases Nat.lt_or_ge s.2.2 (F.length + 1) with c | c
        · exact c
        · exact absurd (nI_le c (by omega)) y
      refine fin _ (fun S z1 z2 z3 => ((Fr.rf.sI z1).sI z2).sI z3) rfl ((sI_so (by decide)).trans ((sI_so (by decide)).trans sI_ss)) ?_ sI_ss
      rw [Nat.max_eq_right (by omega)]
      exact (sI_so (by decide)).trans sI_ss
    · rw [cf, e34] at y
      exact absurd (Int32.le_refl _) y
  | succ m ih =>
    intro k σ hk h
    have e34 : σ.1 184 f = nI tk := (h.1.2.2.2.2.2.2 184 f rfl).1.trans h4
    have e133 := h.1.1.1
    have e136 := h.1.2.1.1
    have cA : (nI (A.length + k)).toNatClampNeg = A.length + k := nI_clamp (by omega)
    have cs : (nI (500 * F.length + k)).toNatClampNeg = 500 * F.length + k := nI_clamp (by omega)
    have hk2 : R[k]? = some R[k] := List.getElem?_eq_getElem (by omega)
    generalize R[k] = v at hk2
    refine S_M_begins_78 ?_
    rw [cf, e34, e133, e136, show (500 : Int32) = nI 500 from rfl, nI_mul, nI_add, nI_add, cA, cs, h.2.2.1 k v hk2, (nI_succ k).symm]
    refine ⟨vf, fun y => absurd y (nI_ge (by omega) (by omega)), fun _ => ⟨vp_in_nI (by omega) (by decide), vp_in_nI (by omega) (by decide), ih (k + 1) _ (by omega) ⟨h.1.new, (congrFun (sI_o (by decide)) _).trans h.2.1, fun j u hu => (congrFun (sI_o (by decide)) _).trans (h.2.2.1 j u hu), fun j u hj hu => ?_⟩⟩⟩
    rcases Nat.lt_or_ge j k with c | c
    · exact (sI_so (by omega)).trans (h.2.2.2 j u c hu)
    · have : j = k := by omega
      subst this
      rw [hk2] at hu
      have := Option.some.inj hu
      subst this
      exact sI_ss
/-- a CALL begins -/
theorem m_begins {st : Nat} (h3 : σ0.1 183 f = nI st) (h4 : σ0.1 184 f = nI tk) (hf : f < 20) (ht : tk ≤ 4) (hR : R.length = tk) (h : WM σ0 (R.reverse ++ A) F s p σ) : Cv d 363 [.ref 103, .int (nI f)] σ (fun σ' => (F.length < 60 ∧ s.2.1 < 5000 ∧ WM σ0 A ((p, R.reverse) :: F) (s.1, s.2.1 + 1, max s.2.2 (F.length + 1)) (nI st) σ') ∨ (¬ F.length < 60 ∧ YEr σ0 s 3 σ') ∨ (F.length < 60 ∧ ¬ s.2.1 < 5000 ∧ YEr σ0 s 4 σ')) := by
  have cf : (nI f).toNatClampNeg = f := nI_clamp (by omega)
  have vf : vp_in (nI f) 20 := vp_in_nI hf (by decide)
  have e136 := h.2.1.1
  have l6 := h.2.1.2.1
  have e135 := h.2.2.1.2.2.2.1
  have l5 := h.2.2.1.2.2.2.2.1
  have k6 : (nI F.length = (60 : Int32)) ↔ F.length = 60 := nI_eq (b := 60) (by omega) (by decide)
  have k5 : (nI s.2.1 = (5000 : Int32)) ↔ s.2.1 = 5000 := nI_eq (b := 5000) (by omega) (by decide)
  have la : (R.reverse ++ A).length = A.length + tk := by rw [List.length_append, List.length_reverse, hR, Nat.add_comm]
  have hA : A.length + tk ≤ 12000 := by have := h.1.2.1; omega
  have e34 : σ.1 184 f = nI tk := (h.2.2.2.2.2.2 184 f rfl).1.trans h4
  have e133 : σ.1 103 133 = nI (A.length + tk) := by rw [h.1.1, la]
  refine S_M_begins ?_
  rw [e136, e135, k6, k5]
  refine ⟨fun y => ⟨fun z => absurd y z, fun _ => Or.inr (Or.inl ⟨by omega, h.err (x := 3)⟩)⟩, fun y => ⟨fun z => ⟨vp_in_nI (by omega) (by decide), vf, ?_⟩, fun z => ⟨fun _ => Or.inr (Or.inr ⟨by omega, by omega, h.err (x := 4)⟩), fun z2 => absurd z2 y⟩⟩⟩
  rw [cf, nI_clamp (n := F.length) (by omega), h.2.2.2.1, e34, e133, nI_sub (by omega), Nat.add_sub_cancel, (nI_succ s.2.1).symm]
  have hb : BG σ0 A F (s.1, s.2.1 + 1, s.2.2) p R 0 (sI (sI (sI σ 103 135 (nI (s.2.1 + 1))) 188 F.length p) 103 133 (nI A.length)) := by
    have hx := WM.pop (M := R.reverse) h
    obtain ⟨x1, x2, ⟨b1, b2, b3, b4, b5, b6, b7⟩, x4, x5, x6, x7⟩ := h
    have f0 : Fr (fun c j => Nat.beq c 188 || (Nat.beq c 103 && (Nat.beq j 135 || Nat.beq j 133))) σ (sI (sI (sI σ 103 135 (nI (s.2.1 + 1))) 188 F.length p) 103 133 (nI A.length)) := ((Fr.rf.sI rfl).sI rfl).sI rfl
    refine ⟨⟨⟨sI_ss, by omega, fun i v hv => (f0 186 i rfl).1.trans (x1.2.2 i v (rev_in hv))⟩, ⟨(f0 103 136 rfl).1.trans x2.1, x2.2.1, fun i q hq => ?_⟩, ⟨(f0 103 134 rfl).1.trans b1, b2, fun i q hq => ⟨(f0 189 i rfl).1.trans (b3 i q hq).1, (f0 190 i rfl).1.trans (b3 i q hq).2⟩, ?_, by show s.2.1 + 1 ≤ 5000; omega, (f0 103 137 rfl).1.trans b6, b7⟩, (f0 103 142 rfl).1.trans x4, (f0 103 138 rfl).1.trans x5, x6, x7.tr (((Fr.rf.sI rfl).sI rfl).sI rfl)⟩, ?_, fun j v hv => ?_, fun j v hj => absurd hj (Nat.not_lt_zero j)⟩
    · obtain ⟨g1, g2, g3⟩ := x2.2.2 i q hq
      have il := (List.getElem?_eq_some_iff.mp hq).1
      rw [List.length_reverse] at il
      refine ⟨?_, g2, fun k u hu => (f0 187 _ rfl).1.trans (g3 k u hu)⟩
      exact (congrFun (sI_o (by decide)) _).trans ((sI_so (by omega)).trans ((congrFun (sI_o (by decide)) _).trans g1))
    · exact (sI_so (by decide)).trans ((congrFun (sI_o (by decide)) _).trans sI_ss)
    · exact (congrFun (sI_o (by decide)) _).trans sI_ss
    · refine (f0 186 _ rfl).1.trans (x1.2.2 _ v ?_)
      rw [List.reverse_append, List.reverse_reverse, List.getElem?_append_right (by rw [List.length_reverse]; omega), List.length_reverse, Nat.add_sub_cancel_left]
      exact hv
  refine (w_78 h3 h4 hf ht (by omega) hA hR tk 0 _ (Nat.zero_add _) hb).mono fun u σ9 hy => ?_
  obtain ⟨rfl, h9⟩ := Qv_s hy
  exact Or.inl ⟨by omega, by omega, h9⟩
end BM
