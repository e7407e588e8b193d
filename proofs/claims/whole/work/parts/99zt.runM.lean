/-! THE REFERENCE runs: its stack, places, pairs, CALLS -/
/-- the stack, the upmost first -/
def YS (A : List Int32) (σ : fkS) : Prop := σ.1 103 133 = nI A.length ∧ A.length ≤ 12000 ∧ ∀ i v, A.reverse[i]? = some v → σ.1 186 i = v
/-- pairs, orders, the deepest -/
def YH (s : rwS) (σ : fkS) : Prop := σ.1 103 134 = nI s.1.length ∧ s.1.length ≤ 500 ∧ (∀ i q, s.1[i]? = some q → σ.1 189 i = q.1 ∧ σ.1 190 i = q.2 - 1) ∧ σ.1 103 135 = nI s.2.1 ∧ s.2.1 ≤ 5000 ∧ σ.1 103 137 = nI s.2.2 ∧ s.2.2 ≤ 60
/-- CALLS within one another, the innermost first: where it goes on, what stands in its places, the last one first -/
def YF (F : List (Int32 × List Int32)) (σ : fkS) : Prop := σ.1 103 136 = nI F.length ∧ F.length ≤ 60 ∧ ∀ i q, F.reverse[i]? = some q → σ.1 188 i = q.1 ∧ q.2.length ≤ 500 ∧ ∀ j v, q.2.reverse[j]? = some v → σ.1 187 (500 * i + j) = v
def fkYC (c j : Nat) : Bool := (Nat.ble 186 c && Nat.ble c 190) || (Nat.beq c 103 && ((Nat.ble 133 j && Nat.ble j 138) || Nat.beq j 142))
/-- the reference in a RUN at place p -/
def WM (σ0 : fkS) (A : List Int32) (F : List (Int32 × List Int32)) (s : rwS) (p : Int32) (σ : fkS) : Prop := YS A σ ∧ YF F σ ∧ YH s σ ∧ σ.1 103 142 = p ∧ σ.1 103 138 = 0 ∧ σ.2.2 = σ0.2.2 ∧ Fr fkYC σ0 σ
/-- ended with an error -/
def YEr (σ0 : fkS) (s : rwS) (x : Nat) (σ : fkS) : Prop := YH s σ ∧ σ.1 103 138 = nI x ∧ σ.2.2 = σ0.2.2 ∧ Fr fkYC σ0 σ
section WMs
variable {σ0 σ σ' : fkS} {A : List Int32} {F : List (Int32 × List Int32)} {s : rwS} {p : Int32} {S : Nat → Nat → Bool}
theorem YH.fr (h : YH s σ) (hf : Fr S σ σ') (h4 : S 103 134 = false) (h5 : S 103 135 = false) (h7 : S 103 137 = false) (h189 : ∀ j, S 189 j = false) (h190 : ∀ j, S 190 j = false) : YH s σ' := by
  obtain ⟨b1, b2, b3, b4, b5, b6, b7⟩ := h
  exact ⟨(hf _ _ h4).1.trans b1, b2, fun i q hq => ⟨(hf _ _ (h189 _)).1.trans (b3 i q hq).1, (hf _ _ (h190 _)).1.trans (b3 i q hq).2⟩, (hf _ _ h5).1.trans b4, b5, (hf _ _ h7).1.trans b6, b7⟩
theorem YF.fr (h : YF F σ) (hf : Fr S σ σ') (h6 : S 103 136 = false) (h188 : ∀ j, S 188 j = false) (h187 : ∀ j, S 187 j = false) : YF F σ' :=
  ⟨(hf _ _ h6).1.trans h.1, h.2.1, fun i q hq => ⟨(hf _ _ (h188 _)).1.trans (h.2.2 i q hq).1, (h.2.2 i q hq).2.1, fun j v hv => (hf _ _ (h187 _)).1.trans ((h.2.2 i q hq).2.2 j v hv)⟩⟩
theorem YS.fr (h : YS A σ) (hf : Fr S σ σ') (h3 : S 103 133 = false) (h186 : ∀ j, S 186 j = false) : YS A σ' := ⟨(hf _ _ h3).1.trans h.1, h.2.1, fun i v hv => (hf _ _ (h186 _)).1.trans (h.2.2 i v hv)⟩
theorem WM.at2 {q : Int32} (h : WM σ0 A F s p σ) : WM σ0 A F s q (sI σ 103 142 q) := by
  obtain ⟨h1, h2, h3, h4, h5, h6, h7⟩ := h
  have f0 : Fr (fun c j => Nat.beq c 103 && Nat.beq j 142) σ (sI σ 103 142 q) := Fr.rf.sI rfl
  exact ⟨h1.fr f0 rfl (fun _ => rfl), h2.fr f0 rfl (fun _ => rfl) (fun _ => rfl), h3.fr f0 rfl rfl rfl (fun _ => rfl) (fun _ => rfl), sI_ss, (f0 103 138 rfl).1.trans h5, h6, h7.tr (Fr.rf.sI rfl)⟩
theorem WM.err {x : Nat} (h : WM σ0 A F s p σ) : YEr σ0 s x (sI σ 103 138 (nI x)) := by
  obtain ⟨h1, h2, h3, h4, h5, h6, h7⟩ := h
  have f0 : Fr (fun c j => Nat.beq c 103 && Nat.beq j 138) σ (sI σ 103 138 (nI x)) := Fr.rf.sI rfl
  exact ⟨h3.fr f0 rfl rfl rfl (fun _ => rfl) (fun _ => rfl), sI_ss, h6, h7.tr (Fr.rf.sI rfl)⟩
theorem fkYC6 (j : Nat) : fkYC 186 j = true := rfl
theorem WM.push {v : Int32} (h : WM σ0 A F s p σ) (hl : A.length < 12000) : WM σ0 (v :: A) F s p (sI (sI σ 186 A.length v) 103 133 (nI (A.length + 1))) := by
  obtain ⟨⟨a1, a2, a3⟩, h2, h3, h4, h5, h6, h7⟩ := h
  have f0 : Fr (fun c j => Nat.beq c 186 || (Nat.beq c 103 && Nat.beq j 133)) σ (sI (sI σ 186 A.length v) 103 133 (nI (A.length + 1))) := (Fr.rf.sI rfl).sI rfl
  refine ⟨⟨sI_ss, hl, fun i u hu => ?_⟩, h2.fr f0 rfl (fun _ => rfl) (fun _ => rfl), h3.fr f0 rfl rfl rfl (fun _ => rfl) (fun _ => rfl), (f0 103 142 rfl).1.trans h4, (f0 103 138 rfl).1.trans h5, h6, h7.tr ((Fr.rf.sI rfl).sI rfl)⟩
  rcases rev_last hu with ⟨c, hu⟩ | ⟨c, hu⟩
  · exact (congrFun (sI_o (by decide)) i).trans ((sI_so (by omega)).trans (a3 i u hu))
  · subst hu
    rw [c]
    exact (congrFun (sI_o (by decide)) _).trans sI_ss
theorem WM.pop {M : List Int32} (h : WM σ0 (M ++ A) F s p σ) : WM σ0 A F s p (sI σ 103 133 (nI A.length)) := by
  obtain ⟨⟨a1, a2, a3⟩, h2, h3, h4, h5, h6, h7⟩ := h
  rw [List.length_append] at a2
  have f0 : Fr (fun c j => Nat.beq c 103 && Nat.beq j 133) σ (sI σ 103 133 (nI A.length)) := Fr.rf.sI rfl
  exact ⟨⟨sI_ss, by omega, fun i u hu => (congrFun (sI_o (by decide)) i).trans (a3 i u (rev_in hu))⟩, h2.fr f0 rfl (fun _ => rfl) (fun _ => rfl), h3.fr f0 rfl rfl rfl (fun _ => rfl) (fun _ => rfl), (f0 103 142 rfl).1.trans h4, (f0 103 138 rfl).1.trans h5, h6, h7.tr (Fr.rf.sI rfl)⟩
theorem WM.put {M : List Int32} {w x : Int32} (h : WM σ0 (M ++ w :: A) F s p σ) : WM σ0 (M ++ x :: A) F s p (sI σ 186 A.length x) := by
  obtain ⟨⟨a1, a2, a3⟩, h2, h3, h4, h5, h6, h7⟩ := h
  have f0 : Fr (fun c j => Nat.beq c 186) σ (sI σ 186 A.length x) := Fr.rf.sI rfl
  have el : (M ++ x :: A).length = (M ++ w :: A).length := by simp only [List.length_append, List.length_cons]
  refine ⟨⟨((f0 103 133 rfl).1.trans a1).trans (by rw [el]), by rw [el]; exact a2, fun i u hu => ?_⟩, h2.fr f0 rfl (fun _ => rfl) (fun _ => rfl), h3.fr f0 rfl rfl rfl (fun _ => rfl) (fun _ => rfl), (f0 103 142 rfl).1.trans h4, (f0 103 138 rfl).1.trans h5, h6, h7.tr (Fr.rf.sI rfl)⟩
  have er : ∀ y : Int32, (M ++ y :: A).reverse = A.reverse ++ y :: M.reverse := fun y => by rw [List.reverse_append, List.reverse_cons, List.append_assoc]; rfl
  rw [er] at hu
  have a3' := a3 i
  rw [er] at a3'
  rcases Nat.lt_trichotomy i A.length with c | c | c
  · rw [List.getElem?_append_left (by rw [List.length_reverse]; exact c)] at hu a3'
    exact (sI_so (by omega)).trans (a3' u hu)
  · subst c
    rw [List.getElem?_append_right (by rw [List.length_reverse]; exact Nat.le_refl _), List.length_reverse, Nat.sub_self] at hu
    have : x = u := Option.some.inj hu
    subst this
    exact sI_ss
  · refine (sI_so (by omega)).trans (a3' u ?_)
    obtain ⟨k, hk⟩ : ∃ k, i = A.length + (k + 1) := ⟨i - A.length - 1, by omega⟩
    subst hk
    rw [List.getElem?_append_right (by rw [List.length_reverse]; omega), List.length_reverse, Nat.add_sub_cancel_left] at hu ⊢
    exact hu
/-- what stands upmost -/
theorem WM.top {v : Int32} (h : WM σ0 (v :: A) F s p σ) : σ.1 186 A.length = v := h.1.2.2 _ _ (rev_at v A)
theorem WM.top2 {v u : Int32} (h : WM σ0 (v :: u :: A) F s p σ) : σ.1 186 A.length = u := h.1.2.2 _ _ (rev_in (M := [v]) (rev_at u A))
/-- a place of the innermost CALL -/
theorem WM.sto {rt v : Int32} {L : List Int32} (h : WM σ0 A ((rt, L) :: F) s p σ) (hl : L.length < 500) : WM σ0 A ((rt, v :: L) :: F) s p (sI σ 187 (500 * F.length + L.length) v) := by
  obtain ⟨h1, ⟨c1, c2, c3⟩, h3, h4, h5, h6, h7⟩ := h
  have f0 : Fr (fun c j => Nat.beq c 187) σ (sI σ 187 (500 * F.length + L.length) v) := Fr.rf.sI rfl
  refine ⟨h1.fr f0 rfl (fun _ => rfl), ⟨(f0 103 136 rfl).1.trans c1, c2, fun i q hq => ?_⟩, h3.fr f0 rfl rfl rfl (fun _ => rfl) (fun _ => rfl), (f0 103 142 rfl).1.trans h4, (f0 103 138 rfl).1.trans h5, h6, h7.tr (Fr.rf.sI rfl)⟩
  rcases rev_last hq with ⟨c, hq⟩ | ⟨c, hq⟩
  · obtain ⟨g1, g2, g3⟩ := c3 i q (rev_in (M := [(rt, L)]) hq)
    refine ⟨(f0 188 i rfl).1.trans g1, g2, fun j u hu => ?_⟩
    have jl := (List.getElem?_eq_some_iff.mp hu).1
    rw [List.length_reverse] at jl
    exact (sI_so (by omega)).trans (g3 j u hu)
  · subst hq
    subst c
    obtain ⟨g1, g2, g3⟩ := c3 F.length (rt, L) (rev_at _ F)
    refine ⟨(f0 188 _ rfl).1.trans g1, hl, fun j u hu => ?_⟩
    rcases rev_last hu with ⟨c, hu⟩ | ⟨c, hu⟩
    · exact (sI_so (by omega)).trans (g3 j u hu)
    · subst hu
      subst c
      exact sI_ss
/-- places forgotten -/
theorem WM.low {rt : Int32} {M L : List Int32} (h : WM σ0 A ((rt, M ++ L) :: F) s p σ) : WM σ0 A ((rt, L) :: F) s p σ := by
  obtain ⟨h1, ⟨c1, c2, c3⟩, h3⟩ := h
  refine ⟨h1, ⟨c1, c2, fun i q hq => ?_⟩, h3⟩
  rcases rev_last hq with ⟨c, hq⟩ | ⟨c, hq⟩
  · exact c3 i q (rev_in (M := [(rt, M ++ L)]) hq)
  · subst hq
    subst c
    obtain ⟨g1, g2, g3⟩ := c3 F.length (rt, M ++ L) (rev_at _ F)
    refine ⟨g1, ?_, fun j u hu => g3 j u (rev_in hu)⟩
    have g2' : (M ++ L).length ≤ 500 := g2
    rw [List.length_append] at g2'
    show L.length ≤ 500
    omega
/-- what stands at a place -/
theorem WM.slot {rt v : Int32} {L : List Int32} {i : Nat} (h : WM σ0 A ((rt, L) :: F) s p σ) (hi : L.reverse[i]? = some v) : σ.1 187 (500 * F.length + i) = v ∧ i < L.length ∧ L.length ≤ 500 := by
  obtain ⟨-, g2, g3⟩ := h.2.1.2.2 F.length (rt, L) (rev_at _ F)
  have jl := (List.getElem?_eq_some_iff.mp hi).1
  rw [List.length_reverse] at jl
  exact ⟨g3 i v hi, jl, g2⟩
end WMs
/-- the turns of the kept PROGRAM -/
def TCd (σ0 : fkS) (L : List tE) : Prop := L.length ≤ 4000 ∧ ∀ i q, L[i]? = some q → σ0.1 180 i = q.1 ∧ (q.1 = 7 ∨ q.1 = 9 ∨ σ0.1 181 i = q.2.1) ∧ σ0.1 182 i = q.2.2
/-- the RUN goes on -/
def LY (d : Nat) (Q : Option Value → fkS → Prop) (σ : fkS) : Prop := Wq 362 (d + 4) 106 [some (.ref 103), none, none] [] σ Q
section LYs
variable {σ0 σ : fkS} {A : List Int32} {F : List (Int32 × List Int32)} {s : rwS} {p : Int32} {d : Nat} {Q : Option Value → fkS → Prop}
theorem ly_step {f0 : Int32 × List Int32} (h : WM σ0 A (f0 :: F) s p σ) (go : Cv (d + 3) 364 [.ref 103] σ (fun σ9 => LY d Q σ9)) : LY d Q σ := by
  have h6 : σ.1 103 136 = nI (F.length + 1) := h.2.1.1
  have l6 : F.length + 1 ≤ 60 := h.2.1.2.1
  unfold LY
  exact S_M_call_106 (d := d + 3) ⟨fun y => absurd h.2.2.2.2.1 y, fun _ => ⟨fun y => absurd (show nI (F.length + 1) ≤ 0 by rw [← h6]; exact y) (nI_nle (by omega) (by omega)), fun _ => go⟩⟩
/-- a turn at p -/
theorem m_at {C : List tE} {e : tE} {k : Nat} (hC : TCd σ0 C) (he : C[k]? = some e) (h : WM σ0 A F s (nI k) σ) : σ.1 103 142 = nI k ∧ (nI k).toNatClampNeg = k ∧ vp_in (nI k) 4000 ∧ σ.1 180 k = e.1 ∧ (e.1 = 7 ∨ e.1 = 9 ∨ σ.1 181 k = e.2.1) ∧ σ.1 182 k = e.2.2 := by
  have kl := (List.getElem?_eq_some_iff.mp he).1
  have c1 := hC.1
  obtain ⟨a1, a2, a3⟩ := hC.2 k e he
  have hf := h.2.2.2.2.2.2
  refine ⟨h.2.2.2.1, nI_clamp (by omega), vp_in_nI (by omega) (by decide), (hf 180 k rfl).1.trans a1, ?_, (hf 182 k rfl).1.trans a3⟩
  rcases a2 with a2 | a2 | a2
  · exact Or.inl a2
  · exact Or.inr (Or.inl a2)
  · exact Or.inr (Or.inr ((hf 181 k rfl).1.trans a2))
end LYs
