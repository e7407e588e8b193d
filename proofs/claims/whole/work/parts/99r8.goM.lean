/-! RUNNING, the reference: one INSTRUCTION -/
def fsD (m : Md) (g : Nat) : List Fm → List Fm
  | [] => []
  | x :: ys => (x.1, x.2.1, x.2.2.1, x.2.2.2.drop (agN m g)) :: ys
theorem ol_fl : ∀ (fs : List Fm), (ol fs).length ≤ (fl fs).length
  | [] => Nat.le_refl _
  | x :: fs => by
    have := ol_fl fs
    show (x.2.2.2 ++ ol fs).length ≤ (x.2.2.2 ++ (x.2.2.1.reverse ++ fl fs)).length
    rw [List.length_append, List.length_append, List.length_append]
    omega
section GOM
variable {t : Nat → UInt8} {n b N d f g f0 i j k p q tk lab a c nl sp r0 : Nat} {m : Md} {σ σ' σ0 : fkS} {L L2 S S2 A R : List Int64} {e e2 : Env} {fs : List Fm} {v w : Int64} {I : In} {Q : fkS → Prop} {J : JS} {bk : Bk} {P : Int32 → fkS → Prop} {QQ : Option Value → fkS → Prop}
theorem okFn.lo110 (h : okFn t n m f) : loN m f ≤ 110 := by
  have h1 : agN m f ≤ 60 := (h.1.fn h.2).2.2.1
  have h2 : lcN m f ≤ 50 := (h.F.2.2.2 _ (List.mem_of_getElem? (fiAt_get h.fl))).1
  rw [loN_eq]
  omega
theorem fsOk.fsN : ∀ {fs : List Fm} {pe : List Nat}, fsOk t n m pe fs → ∀ x ∈ fs, x.2.2.1.length ≤ 110
  | [], _, _ => fun x hx => by cases hx
  | y :: ys, _, h => fun x hx => by
    rcases List.mem_cons.mp hx with z | z
    · rw [z, h.1.2.2.2.2.1.1]
      exact h.1.1.lo110
    · exact h.2.fsN x z
theorem fsOk.nle : ∀ {fs : List Fm} {pe : List Nat}, fsOk t n m pe fs → nlb t m fs ≤ 21 * fs.length
  | [], _, _ => Nat.le_refl _
  | y :: ys, _, h => by
    have h1 := h.2.nle
    have h2 := h.1.2.2.2.1.1.2.1
    show ((jB (jAt t m y.1 y.2.1)).length - 1) + nlb t m ys ≤ 21 * (ys.length + 1)
    omega
/-- a CALL, given that INSTRUCTIONS do -/
theorem m_enters (hG : ∀ s, RI t n m N f0 s → mu t m N s ≤ r0 → Gc t n b N f0 m s) (hS : SM t n b N m σ) (hg : okFn t n m g) (h : PQ t m (fs, R, e, tk, 0, false) p σ) (hc : fs.length ≤ 64) (hA : agN m g ≤ (ol fs ++ R).length) (hs : (fs = [] → R.length = agN m g) ∧ (∀ x ys, fs = x :: ys → R = [] ∧ agN m g ≤ x.2.2.2.length)) (hn : fsN fs) (hRR : RI t n m N f0 (aEn m g (fs, R, e, tk, 0, false)) ∨ RE m N f0 (aEn m g (fs, R, e, tk, 0, false))) (hmu : RI t n m N f0 (aEn m g (fs, R, e, tk, 0, false)) → mu t m N (aEn m g (fs, R, e, tk, 0, false)) ≤ r0) (hd : 6 * (64 - fs.length) + 14 ≤ d) : Cv d 298 [.ref 103, .int (nI g)] σ (eR t n N f0 g m (aEn m g (fs, R, e, tk, 0, false)) (fsD m g fs) p σ) := by
  obtain ⟨d2, rfl⟩ : ∃ d2, d = d2 + 2 := ⟨d - 2, by omega⟩
  by_cases z : fs.length = 64
  · have ea : aEn m g (fs, R, e, tk, 0, false) = (fs, R, e, tk, 8, false) := by
      unfold aEn
      rw [if_pos (show (sF (fs, R, e, tk, 0, false)).length = 64 from z)]
      rfl
    rw [ea] at hRR ⊢
    have hRE : RE m N f0 (fs, R, e, tk, 8, false) := by
      rcases hRR with y | y
      · exact absurd y.2.2.2.2.2.2.2.1 (show ¬ (8 : Nat) = 0 by decide)
      · exact y
    have h70 : σ.1 103 70 = nI 64 := by
      rw [← z]
      exact (h.2.2.2.2 rfl rfl).2.2.2.1
    have h69 : σ.1 103 69 = 0 := h.2.2.1
    refine S_M_enters ⟨fun y => absurd h70 y, fun _ => m_traps h69 ⟨Fr.rf.sI rfl, .inl ⟨0, p, hRE, Nat.le_refl _, .inl (show ¬ (8 : Nat) = 0 by decide), ?_⟩⟩⟩
    obtain ⟨t1, t2, t3, t4, t5⟩ := h
    exact ⟨t1.fr (S := fun c j => Nat.beq c 103 && Nat.beq j 69) (Fr.rf.sI rfl) (fun _ => rfl) (fun _ => rfl) rfl, t2, sI_ss, t4, fun w => absurd w (show ¬ (8 : Nat) = 0 by decide)⟩
  · have hc : fs.length < 64 := by omega
    have hmk : ∃ L0, aEn m g (fs, R, e, tk, 0, false) = ((g, fiS (fiAt m g), L0, []) :: fsD m g fs, [], e, tk, 0, false) := by
      unfold aEn
      rw [if_neg (show ¬ (sF (fs, R, e, tk, 0, false)).length = 64 from z)]
      cases fs with
      | nil =>
        refine ⟨(R.take (agN m g)).reverse ++ List.replicate (fiAt m g).1.length 0, ?_⟩
        show ([newF m g R], R.drop (agN m g), e, tk, 0, false) = _
        rw [List.drop_eq_nil_of_le (Nat.le_of_eq (hs.1 rfl))]
        rfl
      | cons x ys =>
        obtain ⟨f, i, L, S⟩ := x
        refine ⟨(S.take (agN m g)).reverse ++ List.replicate (fiAt m g).1.length 0, ?_⟩
        obtain ⟨hR, -⟩ := hs.2 _ _ rfl
        subst hR
        rfl
    obtain ⟨L0, hL0⟩ := hmk
    have hRI : RI t n m N f0 (aEn m g (fs, R, e, tk, 0, false)) := by
      rcases hRR with y | y
      · exact y
      · rw [hL0] at y
        rcases y.1 with u | u | u
        · cases u
        · exact absurd rfl u
        · cases u
    have e1 : (fsD m g fs).length = fs.length := by cases fs <;> rfl
    have e2 : nlb t m (fsD m g fs) = nlb t m fs := by cases fs <;> rfl
    have e3 : (ol (fsD m g fs)).length = (ol fs ++ R).length - agN m g := by
      cases fs with
      | nil =>
        show 0 = R.length - _
        rw [hs.1 rfl, Nat.sub_self]
      | cons x ys =>
        obtain ⟨f, i, L, S⟩ := x
        obtain ⟨hR, hSl⟩ := hs.2 _ _ rfl
        subst hR
        have hSl : agN m g ≤ S.length := hSl
        show (S.drop (agN m g) ++ ol ys).length = ((S ++ ol ys) ++ []).length - agN m g
        rw [List.append_nil, List.length_append, List.length_append, List.length_drop]
        omega
    refine m_enpre (d := d2) hS hg h hc hA hs hn fun σ1 f1 h1 => ?_
    have hw := w_en177 (t := t) (n := n) (b := b) (N := N) (f0 := f0) (m := m) (g := g) (p := p) (fs := fsD m g fs) (d := d2 + 1) (r0 := r0) (σ0 := σ) (s0 := aEn m g (fs, R, e, tk, 0, false)) (QQ := Qv (eR t n N f0 g m (aEn m g (fs, R, e, tk, 0, false)) (fsD m g fs) p σ)) hg (by rw [e1]; omega) (by rw [e1]; omega) hG (fun σ' h => h) r0 0 (aEn m g (fs, R, e, tk, 0, false)) (fiS (fiAt m g)) L0 [] e tk σ1 rfl hL0 hRI (hmu hRI) (Nat.le_refl _) (hS.fr f1) f1 h1
    rw [e1, e2, e3] at hw
    exact hw
end GOM
