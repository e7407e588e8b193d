/-! RULES of the class's parser: TOKEN, fault, ATOMS, CODE -/
def fkPP (c j : Nat) : Bool := fkPC c j || fkCR c j
def PC (t : Nat → UInt8) (n : Nat) (σ0 : fkS) (s : PS) (C : List cdE) (σ : fkS) : Prop := EX t n s.1 s.2.1 σ ∧ CR C σ ∧ σ.1 88 12 = nI s.2.2 ∧ σ.2.2 = σ0.2.2 ∧ σ0.2.2 88 0 = 76 ∧ Fr fkPP σ0 σ ∧ (s.2.1 = none → s.2.2 ≤ 400)
section PXR
variable {t : Nat → UInt8} {n d : Nat} {σ0 σ : fkS} {s : PS} {C : List cdE}
theorem yV {m : Nat} {as : List Value} {P Q : fkS → Prop} {σE σ : fkS} (hσ : σ.2.2 = σE.2.2) (c : Dv d m as σ P) (k : ∀ σ', P σ' → sW σ' σE = σ' → Q σ') : Dv d m as σ Q := by
  refine c.mono fun x s hx => ?_
  obtain ⟨rfl, e, p⟩ := Qv_s hx
  exact ⟨e, k s p (sW_eq (e.trans hσ))⟩
theorem yI {m : Nat} {as : List Value} {P Q : Int32 → fkS → Prop} {σE σ : fkS} (hσ : σ.2.2 = σE.2.2) (c : Di d m as σ P) (k : ∀ x σ', P x σ' → sW σ' σE = σ' → Q x σ') : Di d m as σ Q := by
  refine c.mono fun x s hx => ?_
  obtain ⟨v, rfl, e, p⟩ := Qi_s hx
  exact ⟨e, k v s p (sW_eq (e.trans hσ))⟩
theorem PC.r0 (h : PC t n σ0 s C σ) : σ.2.2 88 0 = 76 := by rw [h.2.2.2.1]; exact h.2.2.2.2.1
theorem PC.re {σ' : fkS} {s' : PS} {C' : List cdE} (h : PC t n σ0 s C σ) (h' : PC t n σ0 s' C' σ') : σ'.2.2 = σ.2.2 := h'.2.2.2.1.trans h.2.2.2.1.symm
theorem PC.kind (h : PC t n σ0 s C σ) : σ.1 88 9 = kA t n s.1 := h.1.kind
theorem PC.at (h : PC t n σ0 s C σ) : σ.1 88 10 = nI (aA t n s.1) := by
  obtain ⟨⟨⟨-, j, -, -, -, a, -⟩, -⟩, -⟩ := h
  exact a
theorem PC.val (h : PC t n σ0 s C σ) : vX t (tkAt t n s.1) (σ.2.1 88 11) := by
  obtain ⟨⟨⟨-, j, -, -, -, -, a⟩, -⟩, -⟩ := h
  exact a
theorem wv_eq (i : Nat) : wv t (aA t n i) (zA t n i) = wvT t (tkAt t n i).2.1 (tkAt t n i).2.2.1 := by
  unfold wv aA zA
  rw [Nat.add_sub_cancel' (tkAt_le i).1]
theorem nmT_eq (i : Nat) : nmT t (aA t n i) (zA t n i) = tw t (tkAt t n i).2.1 (tkAt t n i).2.2.1 := by
  unfold nmT aA zA
  rw [Nat.add_sub_cancel' (tkAt_le i).1]
theorem PC.nm (h : PC t n σ0 s C σ) (hk : kA t n s.1 = 1) : σ.2.1 88 11 = wv t (aA t n s.1) (zA t n s.1) := by
  rw [wv_eq]
  exact h.val.1 (kX_name.mp hk).1
theorem PC.num (h : PC t n σ0 s C σ) (hk : kA t n s.1 = 2) : σ.2.1 88 11 = lN (nvT t (tkAt t n s.1).2.1 (tkAt t n s.1).2.2.1) := h.val.2 (kX_num.1.mp hk)
theorem Fr.pe {σ σ' : fkS} (h : Fr fkPE σ σ') : Fr fkPP σ σ' := h.mono fun c j q => by unfold fkPP fkPC; rw [q]; rfl
theorem Fr.pc {σ σ' : fkS} (h : Fr fkPC σ σ') : Fr fkPP σ σ' := h.mono fun c j q => by unfold fkPP; rw [q]; rfl
theorem Fr.pr {σ σ' : fkS} (h : Fr fkCR σ σ') : Fr fkPP σ σ' := h.mono fun c j q => by unfold fkPP; rw [q, Bool.or_true]
theorem PC.e {σ' : fkS} {s' : PS} (h : PC t n σ0 s C σ) (hr : σ'.2.2 = σ.2.2) (hf : Fr fkPE σ σ') (he : EX t n s'.1 s'.2.1 σ') (ha : s'.2.2 = s.2.2) (hw : s'.2.1 = none → s.2.1 = none) : PC t n σ0 s' C σ' := by
  obtain ⟨h1, h2, h3, h4, h5, h6, h7⟩ := h
  refine ⟨he, h2.fg hf rfl (fun _ => rfl) (fun _ => rfl) (fun _ => rfl) (fun _ => rfl), ?_, hr.trans h4, h5, h6.tr hf.pe, fun z => by rw [ha]; exact h7 (hw z)⟩
  rw [ha]
  exact (hf 88 12 rfl).1.trans h3
theorem x_exp {k : Int32} (h : PC t n σ0 s C σ) : Dv (d + 1) 185 [.ref 88, .int k] σ (fun σ' => PC t n σ0 (eK t n k s) C σ') := by
  refine (p_expect (k := k) h.1).mono fun x s2 hx => ?_
  obtain ⟨rfl, g0, g1, g2⟩ := Qv_s hx
  exact ⟨g0, h.e g0 g1 g2 rfl fun z => (eK_inv z).1⟩
theorem PC.s0 (h : PC t n σ0 s C σ) (hw : s.2.1 = none) : EX t n s.1 none σ := by
  have := h.1
  rw [hw] at this
  exact this
theorem x_step (h : PC t n σ0 s C σ) (hw : s.2.1 = none) : Dv d 182 [.ref 88] σ (fun σ' => PC t n σ0 (nxt s) C σ') := by
  refine (p_step (h.s0 hw)).mono fun x s2 hx => ?_
  obtain ⟨rfl, g0, g1, g2⟩ := Qv_s hx
  exact ⟨g0, h.e g0 g1 g2 rfl fun _ => hw⟩
theorem x_fail (h : PC t n σ0 s C σ) (hw : s.2.1 = none) : Dv d 186 [.ref 88] σ (fun σ' => PC t n σ0 (ft t n s) C σ') := by
  refine (p_fail h.1).mono fun x s2 hx => ?_
  obtain ⟨rfl, g0, g1, g2⟩ := Qv_s hx
  rw [hw] at g2
  exact ⟨g0, h.e g0 g1 g2 rfl fun z => by cases z⟩
theorem x_fine (h : PC t n σ0 s C σ) : Di d 183 [.ref 88] σ (fun x σ' => σ' = σ ∧ x = if s.2.1 = none then 1 else 0) := p_fine h.1
theorem x_add {o at0 ex : Int32} {v : Int64} (h : PC t n σ0 s C σ) : Di d 190 [.ref 75, .int o, .long v, .int at0, .int ex] σ (fun x σ' => x = nI (min C.length 2999) ∧ PC t n σ0 s (cdA C (o, v, at0, ex)) σ') := by
  refine (p_add h.2.1).mono fun x s2 hx => ?_
  obtain ⟨v, rfl, g0, g1, g2, g3⟩ := Qi_s hx
  obtain ⟨h1, h2, h3, h4, h5, h6, h7⟩ := h
  exact ⟨g0, g1, h1.fg g2 rfl rfl rfl rfl rfl rfl (fun _ => rfl) (fun _ => rfl) (fun _ => rfl), g3, (g2 88 12 rfl).1.trans h3, g0.trans h4, h5, h6.tr g2.pr, h7⟩
theorem x_land {j : Nat} (h : PC t n σ0 s C σ) (hj : j < C.length) : Dv d 193 [.ref 75, .int (nI j)] σ (fun σ' => PC t n σ0 s (cdL C j) σ') := by
  refine (p_land h.2.1 hj).mono fun x s2 hx => ?_
  obtain ⟨rfl, g0, g2, g3⟩ := Qv_s hx
  obtain ⟨h1, h2, h3, h4, h5, h6, h7⟩ := h
  exact ⟨g0, h1.fg g2 rfl rfl rfl rfl rfl rfl (fun _ => rfl) (fun _ => rfl) (fun _ => rfl), g3, (g2 88 12 rfl).1.trans h3, g0.trans h4, h5, h6.tr g2.pr, h7⟩
/-- one more ATOM is counted -/
def ca (t : Nat → UInt8) (n : Nat) (s : PS) : PS := (s.1, if s.2.2 < 400 then none else some (aA t n s.1), s.2.2 + 1)
theorem x_count (h : PC t n σ0 s C σ) (hw : s.2.1 = none) : Dv (d + 1) 198 [.ref 88] σ (fun σ' => PC t n σ0 (ca t n s) C σ') := by
  have h4 := h.2.2.2.2.2.2 hw
  refine (p_count (h.s0 hw) h.2.2.1 (by omega)).mono fun x s2 hx => ?_
  obtain ⟨rfl, g0, g1, g2, g3⟩ := Qv_s hx
  obtain ⟨h1, h2, h3, h4', h5, h6, h7⟩ := h
  have g2' : EX t n s.1 (if s.2.2 < 400 then none else some (aA t n s.1)) s2 := g2
  refine ⟨g0, g2', h2.fg g1 rfl (fun _ => rfl) (fun _ => rfl) (fun _ => rfl) (fun _ => rfl), g3, g0.trans h4', h5, h6.tr g1.pc, fun z => ?_⟩
  have z2 : (if s.2.2 < 400 then none else some (aA t n s.1)) = none := z
  show s.2.2 + 1 ≤ 400
  by_cases c : s.2.2 < 400
  · omega
  · rw [if_neg c] at z2; cases z2
/-- what reading an E comes to -/
def XE (t : Nat → UInt8) (n : Nat) (σ0 : fkS) (d m : Nat) (as : List Value) (E : PS → PS × Tr) : Prop := ∀ (s : PS) (C : List cdE) (σ : fkS), PC t n σ0 s C σ → Dv d m as σ (fun σ' => ∃ C', PC t n σ0 (E s).1 C' σ' ∧ Go t (E s).2 (E s).1 C C')
end PXR
