/-! the class reads all TOKENS -/
def fkTA (c j : Nat) : Bool := fkPW c j || fkTK c j
theorem Fr.ptw {σ σ' : fkS} (h : Fr fkPW σ σ') : Fr fkTA σ σ' := h.mono fun c j q => by unfold fkTA; rw [q]; rfl
theorem Fr.ptk {σ σ' : fkS} (h : Fr fkTK σ σ') : Fr fkTA σ σ' := h.mono fun c j q => by unfold fkTA; rw [q, Bool.or_true]
section RX
variable {d n : Nat} {t : Nat → UInt8}
theorem p_last {L : List (Nat × Nat × Nat × Nat)} {σ : fkS} (h : PTx t n σ) (hL : TR t L σ) (hl : L.length ≤ n) : Dv d 181 [.ref 88] (sI (sI σ 88 10 (σ.1 88 2)) 88 9 (0 : Int32)) (fun s => Fr fkTA σ s ∧ TR t (L ++ [(0, n, n, 0)]) s) := by
  have f0 : Fr fkPW σ (sI (sI σ 88 10 (σ.1 88 2)) 88 9 (0 : Int32)) := (Fr.rf.sI rfl).sI rfl
  have hn := h.2.2.2
  refine (p_keep (q := (0, n, n, 0)) (hL.fr f0) (by omega) sI_ss (((sI_so (by decide)).trans sI_ss).trans h.2.1) ⟨fun z => absurd (show (0 : Nat) = 1 from z) (by decide), fun z => absurd (show (0 : Nat) = 2 from z) (by decide)⟩).mono fun x s hx => ?_
  obtain ⟨rfl, g1, g2, g3⟩ := Qv_s hx
  exact ⟨g1, f0.ptw.tr g2.ptk, g3⟩
theorem p_rowW : ∀ (f p : Nat) (L : List (Nat × Nat × Nat × Nat)) (σ : fkS), PTx t n σ → TR t L σ → σ.1 88 3 = nI (runP cB t n p) → p ≤ n → L.length ≤ p → n + 1 - p ≤ f → Wq 145 (d + 7) 16 [some (.ref 88), some (.int (nI L.length))] [] σ (Qv (fun s => s.2.2 = σ.2.2 ∧ Fr fkTA σ s ∧ TR t (L ++ tks t n f p) s)) := by
  intro f
  induction f with
  | zero => intro p L σ _ _ _ hp _ hf; omega
  | succ f ih =>
    intro p L σ h hL h3 hp hl hf
    have hn := h.2.2.2
    have hle := runP_le (f := cB) (t := t) (n := n) p
    have hle2 := hle.2 hp
    by_cases ha : runP cB t n p < n
    · obtain ⟨b1, b2, b3, b4⟩ := tokA_to (t := t) ha
      have e0 : tks t n (f + 1) p = tok t n p :: tks t n f (tok t n p).2.2.1 := by rw [tks, if_neg (show ¬ (tok t n p).1 = 0 from b4)]
      rw [e0]
      unfold tok
      refine S_Parser_readTokens_16 ⟨fun z => ?_, fun _ => ⟨fun z => ?_, fun _ => ?_⟩⟩
      · exact absurd z (nI_ge (b := 4000) (by omega) (by decide))
      · rw [h.2.1, h3] at z
        exact absurd z (nI_ge ha (by omega))
      · rw [h3]
        have hbx : bX t n (runP cB t n p) = nI (t (runP cB t n p)).toNat := by unfold bX; rw [if_pos ha]; rfl
        refine (p_byte (i := runP cB t n p) h (by omega)).mono fun x s hx => ?_
        obtain ⟨v1, rfl, e1, rfl, rfl⟩ := Qi_s hx
        refine ⟨e1, ?_⟩
        simp only [sW_eq e1]
        rw [hbx]
        refine (p_one (d := d) h h3 ha).mono fun x s1 hx => ?_
        obtain ⟨rfl, e2, g1, g2, g3, g4, g5⟩ := Qv_s hx
        refine ⟨e2, ?_⟩
        simp only [sW_eq e2]
        have h1 : PTx t n s1 := h.fr g1 (fun _ => rfl) rfl rfl
        refine (p_keep (q := tokA t n (runP cB t n p)) (hL.fr g1) (by omega) g4 (by rw [b3]; exact g3) g5).mono fun x s2 hx => ?_
        obtain ⟨rfl, e3, k1, k2⟩ := Qv_s hx
        refine ⟨e3, ?_⟩
        simp only [sW_eq (e3.trans e2)]
        have h2 : PTx t n s2 := h1.fr k1 (fun _ => rfl) rfl rfl
        refine (p_blanks (p := (tokA t n (runP cB t n p)).2.2.1) h2 ((k1 88 3 rfl).1.trans g2) b2).mono fun x s3 hx => ?_
        obtain ⟨rfl, e4, m1, m2⟩ := Qv_s hx
        refine ⟨e4, ?_⟩
        simp only [sW_eq (e4.trans (e3.trans e2))]
        have h3' : PTx t n s3 := h2.fr m1 (fun _ => rfl) rfl rfl
        have el : nI L.length + 1 = nI (L ++ [tokA t n (runP cB t n p)]).length := by
          rw [List.length_append]
          exact (nI_succ L.length).symm
        rw [el]
        refine (ih (tokA t n (runP cB t n p)).2.2.1 (L ++ [tokA t n (runP cB t n p)]) s3 h3' (k2.fr m1.p3w) m2 b2 (by rw [List.length_append]; have l1 : [tokA t n (runP cB t n p)].length = 1 := rfl; omega) (by omega)).mono fun x s4 hx => ?_
        obtain ⟨rfl, e5, q1, q2⟩ := Qv_s hx
        rw [List.append_assoc] at q2
        exact ⟨e5.trans (e4.trans (e3.trans e2)), ((g1.ptw.tr k1.ptk).tr m1.p3w.ptw).tr q1, q2⟩
    · have ea : runP cB t n p = n := by omega
      have e0 : tks t n (f + 1) p = [(0, n, n, 0)] := by
        have e1 : tok t n p = (0, n, n, 0) := by
          unfold tok
          rw [ea]
          exact tokA_E (by omega)
        rw [tks, e1]
        rfl
      rw [e0]
      have fin : Dv (d + 6) 181 [.ref 88] (sI (sI σ 88 10 (σ.1 88 2)) 88 9 (0 : Int32)) (fun s => (sW s σ).2.2 = σ.2.2 ∧ Fr fkTA σ (sW s σ) ∧ TR t (L ++ [(0, n, n, 0)]) (sW s σ)) := by
        refine (p_last h hL (by omega)).mono fun x s hx => ?_
        obtain ⟨rfl, g1, g2, g3⟩ := Qv_s hx
        have g1' : s.2.2 = σ.2.2 := g1
        refine ⟨g1, ?_⟩
        show (sW s σ).2.2 = σ.2.2 ∧ Fr fkTA σ (sW s σ) ∧ TR t (L ++ [(0, n, n, 0)]) (sW s σ)
        rw [sW_eq g1']
        exact ⟨g1', g2, g3⟩
      refine S_Parser_readTokens_16 ⟨fun _ => fin, fun _ => ⟨fun _ => fin, fun z => ?_⟩⟩
      rw [h.2.1, h3, ea] at z
      exact absurd (nI_le (Nat.le_refl n) (by omega)) z
theorem p_row {σ : fkS} (h : PTx t n σ) : Dv (d + 7) 145 [.ref 88] σ (fun s => Fr fkTA σ s ∧ TR t (tks t n (n + 1) 0) s) := by
  refine S_Parser_readTokens ?_
  have f0 : Fr fkTA σ (sI (sI σ 88 7 (0 : Int32)) 88 3 (0 : Int32)) := (Fr.rf.sI rfl).sI rfl
  have h' : PTx t n (sI (sI σ 88 7 (0 : Int32)) 88 3 (0 : Int32)) := h.fr f0 (fun _ => rfl) rfl rfl
  have h7 : (sI (sI σ 88 7 (0 : Int32)) 88 3 (0 : Int32)).1 88 7 = 0 := (sI_so (by decide)).trans sI_ss
  have h3 : (sI (sI σ 88 7 (0 : Int32)) 88 3 (0 : Int32)).1 88 3 = nI 0 := sI_ss
  refine (p_blanks h' h3 (Nat.zero_le n)).mono fun x s hx => ?_
  obtain ⟨rfl, e1, g1, g2⟩ := Qv_s hx
  have e1' : s.2.2 = σ.2.2 := e1
  refine ⟨e1, ?_⟩
  simp only [sW_eq e1']
  refine (p_rowW (d := d) (n + 1) 0 [] s (h'.fr g1 (fun _ => rfl) rfl rfl) ⟨(g1 88 7 rfl).1.trans h7, fun i q hq => by simp at hq⟩ g2 (Nat.zero_le n) (Nat.le_refl 0) (by omega)).mono fun x s2 hx => ?_
  obtain ⟨rfl, e2, q1, q2⟩ := Qv_s hx
  exact ⟨e2.trans e1', (f0.tr g1.p3w.ptw).tr q1, q2⟩
end RX
