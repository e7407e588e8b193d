/-! the class's words and signs; a TOKEN -/
/-- the kind of a word after the keywords from k on -/
def kwG (w : List Nat) : Nat → Nat → Int32 → Int32
  | 0, _, c => c
  | m + 1, k, c => kwG w m (k + 1) (if w = kws.getD k [] then nI (4 + k) else c)
section WX
variable {d n a : Nat} {t : Nat → UInt8}
theorem p_wordW {Q : Option Value → fkS → Prop} : ∀ (i : Nat) (w : Int64) (σ : fkS), PTx t n σ → σ.1 88 3 = nI i → i ≤ n → σ.2.1 88 11 = w → (∀ s : fkS, s.2.2 = σ.2.2 → Fr fkPV σ s → s.1 88 3 = nI (runP cW t n i) → s.2.1 88 11 = wvG t (runP cW t n i - i) i w → Wq 150 (d + 5) 98 [some (.ref 88), none] [] s Q) → Wq 150 (d + 5) 0 [some (.ref 88), none] [] σ Q := by
  refine runP_ind (f := cW) (t := t) (n := n) _ (fun i hi hf ih w σ h h3 hn h4 kk => ?_) (fun i hi w σ h h3 hn h4 kk => ?_)
  · obtain ⟨a1, a2, a3, a4⟩ := id h
    have hbx : bX t n i = nI (t i).toNat := by unfold bX; rw [if_pos hi]; rfl
    have hb := (t i).toNat_lt
    have e4 : nI i + 1 = nI (i + 1) := (nI_succ i).symm
    have e5 : runP cW t n i - i = (runP cW t n (i + 1) - (i + 1)) + 1 := by
      rw [runP_on hi hf]
      have := (runP_le (f := cW) (t := t) (n := n) (i + 1)).1
      omega
    have on : Wq 150 (d + 5) 0 [some (.ref 88), none] [] (sI (sL σ 88 11 (w * 37 + lN (wvD (t i).toNat))) 88 3 (nI (i + 1))) Q := by
      have f0 : Fr fkPV σ (sI (sL σ 88 11 (w * 37 + lN (wvD (t i).toNat))) 88 3 (nI (i + 1))) := (Fr.rf.sL rfl).sI rfl
      refine ih _ _ (h.fr f0 (fun _ => rfl) rfl rfl) sI_ss hi sL_ss (fun s g1 g2 g3 g4 => kk s g1 (f0.tr g2) (by rw [runP_on hi hf]; exact g3) ?_)
      rw [e5, wvG]
      exact g4
    have body : Wq 150 (d + 5) 39 [some (.ref 88), none] [] σ Q := by
      refine S_Parser_word_39 ?_
      rw [h3]
      refine (p_byte (i := i) h (by omega)).mono fun x s hx => ?_
      obtain ⟨v1, rfl, e1, rfl, rfl⟩ := Qi_s hx
      refine ⟨e1, ?_⟩
      simp only [sW_eq e1]
      rw [hbx]
      refine (p_digit (c := (t i).toNat) (by omega)).mono fun x s hx => ?_
      obtain ⟨v1, rfl, e1, rfl, rfl⟩ := Qi_s hx
      refine ⟨e1, ?_⟩
      simp only [sW_eq e1]
      rw [h3, h4, e4]
      have hlt : cL (t i).toNat = true ∨ (cL (t i).toNat = false ∧ cD (t i).toNat = true) := by
        unfold cW at hf
        cases q : cL (t i).toNat
        · rw [q] at hf; exact Or.inr ⟨rfl, hf⟩
        · exact Or.inl rfl
      rcases hlt with q | ⟨q, q2⟩
      · have q3 : 97 ≤ (t i).toNat ∧ cD (t i).toNat = false := by
          unfold cL at q
          simp at q
          refine ⟨q.1, ?_⟩
          unfold cD
          simp
          omega
        have e6 : (nI (t i).toNat - 97 + 11).toInt64 = lN (wvD (t i).toNat) := by
          unfold wvD
          rw [if_pos q, show (97 : Int32) = nI 97 from rfl, nI_sub q3.1, show (11 : Int32) = nI 11 from rfl, nI_add, nI_l (by omega)]
          congr 1
          omega
        rw [q3.2]
        exact ⟨fun _ => by rw [e6]; exact on, fun z => absurd rfl z⟩
      · have q3 : 48 ≤ (t i).toNat := by
          unfold cD at q2
          simp at q2
          exact q2.1
        have e6 : (nI (t i).toNat - 48 + 1).toInt64 = lN (wvD (t i).toNat) := by
          unfold wvD
          rw [q, if_neg (by decide), show (48 : Int32) = nI 48 from rfl, nI_sub q3, show (1 : Int32) = nI 1 from rfl, nI_add, nI_l (by omega)]
          congr 1
          omega
        rw [q2]
        exact ⟨fun z => absurd z (by decide), fun _ => by rw [e6]; exact on⟩
    refine S_Parser_word_0 ⟨fun z => ?_, fun _ => ?_⟩
    · rw [a2, h3] at z
      exact absurd z (nI_ge hi (by omega))
    · rw [h3]
      refine (p_byte (i := i) h (by omega)).mono fun x s hx => ?_
      obtain ⟨v1, rfl, e1, rfl, rfl⟩ := Qi_s hx
      refine ⟨e1, ?_⟩
      simp only [sW_eq e1]
      rw [hbx]
      refine (p_letter (c := (t i).toNat) (by omega)).mono fun x s hx => ?_
      obtain ⟨v1, rfl, e1, rfl, rfl⟩ := Qi_s hx
      refine ⟨e1, ?_⟩
      simp only [sW_eq e1]
      refine ⟨fun _ => body, fun z => ?_⟩
      rw [h3]
      refine (p_byte (i := i) h (by omega)).mono fun x s hx => ?_
      obtain ⟨v1, rfl, e1, rfl, rfl⟩ := Qi_s hx
      refine ⟨e1, ?_⟩
      simp only [sW_eq e1]
      rw [hbx]
      refine (p_digit (c := (t i).toNat) (by omega)).mono fun x s hx => ?_
      obtain ⟨v1, rfl, e1, rfl, rfl⟩ := Qi_s hx
      refine ⟨e1, ?_⟩
      simp only [sW_eq e1]
      refine ⟨fun z2 => ?_, fun _ => body⟩
      exfalso
      unfold cW at hf
      cases q : cL (t i).toNat
      · cases q2 : cD (t i).toNat
        · rw [q, q2] at hf; cases hf
        · rw [q2] at z2; exact absurd z2 (by decide)
      · rw [q] at z; exact absurd z (by decide)
  · obtain ⟨a1, a2, a3, a4⟩ := id h
    rw [runP_off hi, Nat.sub_self] at kk
    have fin := kk σ rfl Fr.rf h3 h4
    refine S_Parser_word_0 ⟨fun _ => fin, fun z => ?_⟩
    have c : i < n := by
      rcases Nat.lt_or_ge i n with q | q
      · exact q
      · rw [a2, h3] at z
        exact absurd (nI_le q (by omega)) z
    have hbx : bX t n i = nI (t i).toNat := by unfold bX; rw [if_pos c]; rfl
    have hb := (t i).toNat_lt
    have hf : cL (t i).toNat = false ∧ cD (t i).toNat = false := by
      have q : ¬ cW (t i).toNat = true := fun q => hi ⟨c, q⟩
      unfold cW at q
      simpa using q
    rw [h3]
    refine (p_byte (i := i) h (by omega)).mono fun x s hx => ?_
    obtain ⟨v1, rfl, e1, rfl, rfl⟩ := Qi_s hx
    refine ⟨e1, ?_⟩
    simp only [sW_eq e1]
    rw [hbx]
    refine (p_letter (c := (t i).toNat) (by omega)).mono fun x s hx => ?_
    obtain ⟨v1, rfl, e1, rfl, rfl⟩ := Qi_s hx
    refine ⟨e1, ?_⟩
    simp only [sW_eq e1]
    rw [hf.1]
    refine ⟨fun z2 => absurd rfl z2, fun _ => ?_⟩
    rw [h3]
    refine (p_byte (i := i) h (by omega)).mono fun x s hx => ?_
    obtain ⟨v1, rfl, e1, rfl, rfl⟩ := Qi_s hx
    refine ⟨e1, ?_⟩
    simp only [sW_eq e1]
    rw [hbx]
    refine (p_digit (c := (t i).toNat) (by omega)).mono fun x s hx => ?_
    obtain ⟨v1, rfl, e1, rfl, rfl⟩ := Qi_s hx
    refine ⟨e1, ?_⟩
    simp only [sW_eq e1]
    rw [hf.2]
    exact ⟨fun _ => fin, fun z2 => absurd rfl z2⟩
theorem p_kwAll {j : Nat} (haj : a ≤ j) (hj : j ≤ n) (hw : ∀ m, a ≤ m → m < j → cW (t m).toNat = true) : ∀ (m k : Nat) (σ : fkS), m + k = 14 → PTx t n σ → σ.1 88 3 = nI j → σ.1 88 10 = nI a → Wq 150 (d + 5) 123 [some (.ref 88), some (.int (nI k))] [] σ (Qv (fun s => s.2.2 = σ.2.2 ∧ Fr fkPV σ s ∧ s.1 88 3 = nI j ∧ s.2.1 88 11 = σ.2.1 88 11 ∧ s.1 88 9 = kwG (tw t a j) m k (σ.1 88 9))) := by
  intro m
  induction m with
  | zero =>
    intro k σ hk h h3 ha
    have : k = 14 := by omega
    subst this
    refine S_Parser_word_123 (rg_S (i := 0) (by decide) ((s_length (i := 0) (by decide)).mono fun x s hx => ?_))
    obtain ⟨v1, rfl, rfl, rfl⟩ := Qi_s hx
    refine ⟨rfl, by decide, fun _ => ⟨rfl, Fr.rf, h3, rfl, rfl⟩, fun z => absurd (by decide) z⟩
  | succ m ih =>
    intro k σ hk h h3 ha
    have hk14 : k < 14 := by omega
    have hlen : nI (fk_ln 0) / 5 = nI 14 := by decide
    refine S_Parser_word_123 (rg_S (i := 0) (by decide) ((s_length (i := 0) (by decide)).mono fun x s hx => ?_))
    obtain ⟨v1, rfl, rfl, rfl⟩ := Qi_s hx
    refine ⟨rfl, by decide, fun z => ?_, fun _ => ?_⟩
    · rw [hlen] at z
      exact absurd z (nI_ge (a := k) (b := 14) hk14 (by decide))
    · simp only [sW_eq (rfl : s.2.2 = s.2.2)]
      refine (p_isKw (d := d) h h3 ha haj hj hk14 hw).mono fun x s hx => ?_
      obtain ⟨v1, rfl, e1, rfl, rfl⟩ := Qi_s hx
      refine ⟨e1, ?_⟩
      simp only [sW_eq e1]
      have e2 : nI k + 1 = nI (k + 1) := (nI_succ k).symm
      rw [e2]
      refine ⟨fun z => ?_, fun z => ?_⟩
      · have q : ¬ tw t a j = kws.getD k [] := fun q => by rw [if_pos q] at z; exact absurd z (by decide)
        rw [kwG, if_neg q]
        exact ih (k + 1) s (by omega) h h3 ha
      · have q : tw t a j = kws.getD k [] := by
          by_cases q : tw t a j = kws.getD k []
          · exact q
          · rw [if_neg q] at z; exact absurd rfl z
        rw [kwG, if_pos q, show (4 : Int32) = nI 4 from rfl, nI_add]
        have f0 : Fr fkPV s (sI s 88 9 (nI (4 + k))) := Fr.rf.sI rfl
        refine (ih (k + 1) _ (by omega) (h.fr f0 (fun _ => rfl) rfl rfl) ((sI_so (by decide)).trans h3) ((sI_so (by decide)).trans ha)).mono fun x s2 hx => ?_
        obtain ⟨rfl, g1, g2, g3, g4, g5⟩ := Qv_s hx
        exact ⟨g1, f0.tr g2, g3, g4, by rw [g5, sI_ss]⟩
/-- a word: its end, its number, its kind -/
theorem p_word {σ : fkS} (h : PTx t n σ) (h3 : σ.1 88 3 = nI a) (ha : σ.1 88 10 = nI a) (hn : a ≤ n) (h4 : σ.2.1 88 11 = 0) : Dv (d + 5) 150 [.ref 88] σ (fun s => Fr fkPV σ s ∧ s.1 88 3 = nI (runP cW t n a) ∧ s.2.1 88 11 = wvT t a (runP cW t n a) ∧ s.1 88 9 = kwG (tw t a (runP cW t n a)) 14 0 (if runP cW t n a - a ≤ 10 then 1 else 3)) := by
  have hle := runP_le (f := cW) (t := t) (n := n) a
  have hn4 := h.2.2.2
  refine Cl.of fk_q150 (by decide) (p_wordW a 0 σ h h3 hn h4 fun s g1 g2 g3 g4 => ?_)
  have hs : PTx t n s := h.fr g2 (fun _ => rfl) rfl rfl
  have hsa : s.1 88 10 = nI a := (g2 88 10 rfl).1.trans ha
  have fin : ∀ c : Int32, (runP cW t n a - a ≤ 10 → c = 1) → (¬ runP cW t n a - a ≤ 10 → c = 3) → Wq 150 (d + 5) 123 [some (.ref 88), some (.int 0)] [] (sI s 88 9 c) (Qv (fun s => s.2.2 = σ.2.2 ∧ Fr fkPV σ s ∧ s.1 88 3 = nI (runP cW t n a) ∧ s.2.1 88 11 = wvT t a (runP cW t n a) ∧ s.1 88 9 = kwG (tw t a (runP cW t n a)) 14 0 (if runP cW t n a - a ≤ 10 then 1 else 3))) := by
    intro c c1 c2
    have f0 : Fr fkPV s (sI s 88 9 c) := Fr.rf.sI rfl
    refine (p_kwAll (d := d) (a := a) hle.1 (hle.2 hn) (fun m h1 h2 => runP_all a m h1 h2) 14 0 _ rfl (hs.fr f0 (fun _ => rfl) rfl rfl) ((sI_so (by decide)).trans g3) ((sI_so (by decide)).trans hsa)).mono fun x s2 hx => ?_
    obtain ⟨rfl, q1, q2, q3, q4, q5⟩ := Qv_s hx
    refine ⟨q1.trans g1, (g2.tr f0).tr q2, q3, q4.trans g4, ?_⟩
    rw [q5, sI_ss]
    by_cases c3 : runP cW t n a - a ≤ 10
    · rw [if_pos c3, c1 c3]
    · rw [if_neg c3, c2 c3]
  refine S_Parser_word_98 ?_
  rw [g3, hsa, nI_sub hle.1]
  refine ⟨fun z => fin 1 (fun _ => rfl) (fun q => ?_), fun z => fin 3 (fun q => ?_) (fun _ => rfl)⟩
  · exact absurd z (nI_ge (a := 10) (b := runP cW t n a - a) (by omega) (by have := hle.2 hn; omega))
  · exact absurd (nI_le (b := 10) q (by decide)) z
end WX
