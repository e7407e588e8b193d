/-! ATOMS counted, nodes made -/
/-- the fault when one more ATOM is counted -/
def atW (t : Nat → UInt8) (n i a : Nat) (w : Option Nat) : Option Nat := if a < 400 then w else some (w.getD (tkAt t n i).2.1)
section AT
variable {d n i a m : Nat} {t : Nat → UInt8} {σ : fkS} {w : Option Nat}
theorem EX.fg {σ' : fkS} {S : Nat → Nat → Bool} (h : EX t n i w σ) (hf : Fr S σ σ') (h7 : S 88 7 = false) (h8 : S 88 8 = false) (h9 : S 88 9 = false) (h10 : S 88 10 = false) (h11 : S 88 11 = false) (h13 : S 88 13 = false) (h90 : ∀ j, S 90 j = false) (h91 : ∀ j, S 91 j = false) (h92 : ∀ j, S 92 j = false) : EX t n i w σ' :=
  ⟨h.1.fg hf h7 h8 h9 h10 h11 h90 h91 h92, (hf _ _ h13).1.trans h.2.1, h.2.2⟩
theorem EM.fg {σ' : fkS} {S : Nat → Nat → Bool} (h : EM t n i w σ) (hf : Fr S σ σ') (h79 : S 103 79 = false) (h80 : S 103 80 = false) (h81 : S 103 81 = false) (h82 : S 103 82 = false) (h83 : S 103 83 = false) (h84 : S 103 84 = false) (h85 : S 103 85 = false) (h154 : ∀ j, S 154 j = false) : EM t n i w σ' :=
  ⟨⟨h.1.1.fr hf h154 h79, h.1.2.fg hf h80 h82 h83 h84 h85⟩, (hf _ _ h81).1.trans h.2.1, h.2.2⟩
def fkPC (c j : Nat) : Bool := fkPE c j || (Nat.beq c 88 && Nat.beq j 12)
theorem p_count (h : EX t n i w σ) (ha : σ.1 88 12 = nI a) (hb : a < 2 ^ 30) : Dv (d + 1) 198 [.ref 88] σ (fun s => Fr fkPC σ s ∧ EX t n i (atW t n i a w) s ∧ s.1 88 12 = nI (a + 1)) := by
  have e1 : nI a + 1 = nI (a + 1) := (nI_succ a).symm
  refine S_Parser_countAtom ?_
  rw [ha]
  refine ⟨fun z => ?_, fun z => ?_⟩
  · have c : a < 400 := by
      rcases Nat.lt_or_ge a 400 with c | c
      · exact c
      · exact absurd z (nI_nlt (b := 400) c (by omega))
    unfold atW
    rw [if_pos c, e1]
    have f0 : Fr (fun c j => Nat.beq c 88 && Nat.beq j 12) σ (sI σ 88 12 (nI (a + 1))) := Fr.rf.sI rfl
    exact ⟨rfl, Fr.rf.sI rfl, h.fg f0 rfl rfl rfl rfl rfl rfl (fun _ => rfl) (fun _ => rfl) (fun _ => rfl), sI_ss⟩
  · have c : ¬ a < 400 := fun c => z (nI_lt (b := 400) c (by decide))
    unfold atW
    rw [if_neg c]
    refine (p_fail h).mono fun x s hx => ?_
    obtain ⟨rfl, g0, g1, g2⟩ := Qv_s hx
    refine ⟨g0, ?_⟩
    have e2 : s.1 88 12 = nI a := (g1 88 12 rfl).1.trans ha
    simp only [sW_eq g0]
    rw [e2, e1]
    have f0 : Fr (fun c j => Nat.beq c 88 && Nat.beq j 12) s (sI s 88 12 (nI (a + 1))) := Fr.rf.sI rfl
    refine ⟨g0, ?_, g2.fg f0 rfl rfl rfl rfl rfl rfl (fun _ => rfl) (fun _ => rfl) (fun _ => rfl), sI_ss⟩
    exact (g1.mono fun c j q => by unfold fkPC; rw [q]; rfl).sI rfl
def fkMC (c j : Nat) : Bool := fkME c j || (Nat.beq c 103 && Nat.beq j 112)
theorem m_room (h : EM t n i w σ) (ha : σ.1 103 112 = nI a) (hb : a < 2 ^ 30) (h400 : w = none → a ≤ 400) : Ci (d + 1) 347 [.ref 103] σ (fun x s => Fr fkMC σ s ∧ EM t n i (atW t n i a w) s ∧ s.1 103 112 = nI (a + 1) ∧ x = if atW t n i a w = none then 1 else 0) := by
  have hw := flt_lt h.2.2.2
  have e1 : nI a + 1 = nI (a + 1) := (nI_succ a).symm
  have fin : ∀ (w2 : Option Nat) (s : fkS), EM t n i w2 s → s.1 103 112 = nI a → ((0 ≤ s.1 103 81 → Qi (fun x s2 => Fr fkMC s s2 ∧ EM t n i w2 s2 ∧ s2.1 103 112 = nI (a + 1) ∧ x = if w2 = none then 1 else 0) (some (.int (0 : Int32))) (sI s 103 112 (nI a + 1))) ∧ (¬ 0 ≤ s.1 103 81 → Qi (fun x s2 => Fr fkMC s s2 ∧ EM t n i w2 s2 ∧ s2.1 103 112 = nI (a + 1) ∧ x = if w2 = none then 1 else 0) (some (.int (1 : Int32))) (sI s 103 112 (nI a + 1)))) := by
    intro w2 s h2 ha2
    have hw2 := flt_lt h2.2.2.2
    have f0 : Fr (fun c j => Nat.beq c 103 && Nat.beq j 112) s (sI s 103 112 (nI a + 1)) := Fr.rf.sI rfl
    have g : EM t n i w2 (sI s 103 112 (nI a + 1)) := h2.fg f0 rfl rfl rfl rfl rfl rfl rfl (fun _ => rfl)
    rw [h2.2.1]
    refine ⟨fun z => ⟨Fr.rf.sI rfl, g, sI_ss.trans e1, ?_⟩, fun z => ⟨Fr.rf.sI rfl, g, sI_ss.trans e1, ?_⟩⟩
    · rw [if_neg (hw2.1.mp z)]
    · rw [if_pos (Classical.byContradiction fun c => z (hw2.1.mpr c))]
  have f1 := fin w σ h ha
  refine S_M_isRoom ?_
  rw [ha]
  refine ⟨fun z => ?_, fun z => ⟨fun z2 => ?_, fun z2 => ?_⟩⟩
  · have e : atW t n i a w = w := by
      unfold atW
      rw [h.2.1] at z
      have := hw.1.mp z
      cases w with
      | none => exact absurd rfl this
      | some b => split <;> rfl
    rw [e]
    exact f1
  · rw [h.2.1] at z
    have wn : w = none := Classical.byContradiction fun c => z (hw.1.mpr c)
    have c : a < 400 := by
      rcases Nat.lt_or_ge a 400 with c | c
      · exact c
      · have : a = 400 := by have := h400 wn; omega
        exact absurd (by rw [this]; rfl) z2
    have e : atW t n i a w = w := by unfold atW; rw [if_pos c]
    rw [e]
    exact f1
  · have c : a = 400 := (nI_eq (b := 400) (by omega) (by decide)).mp z2
    have e : atW t n i a w = some (w.getD (tkAt t n i).2.1) := by unfold atW; rw [if_neg (by omega)]
    rw [e, h.1.2.2.1]
    refine (m_wrong h).mono fun x s hx => ?_
    obtain ⟨rfl, g1, g2⟩ := Qv_s hx
    have f2 := fin _ s g2 ((g1 103 112 rfl).1.trans ha)
    have e3 : s.1 103 112 = nI a := (g1 103 112 rfl).1.trans ha
    have fr : Fr fkMC σ s := g1.mono fun c j q => by unfold fkMC; rw [q]; rfl
    show _ ∧ _
    rw [e3]
    exact ⟨fun z => by obtain ⟨k1, k2⟩ := f2.1 z; exact ⟨fr.tr k1, k2⟩, fun z => by obtain ⟨k1, k2⟩ := f2.2 z; exact ⟨fr.tr k1, k2⟩⟩
/-- a node made -/
def fkND (m c j : Nat) : Bool := ((Nat.beq c 164 || Nat.beq c 165 || Nat.beq c 166 || Nat.beq c 167 || Nat.beq c 168 || Nat.beq c 176) && Nat.beq j m) || (Nat.beq c 103 && Nat.beq j 111)
theorem m_node {k wh : Int32} (h : σ.1 103 111 = nI m) (hm : m < 3000) : Ci d 340 [.ref 103, .int k, .int wh] σ (fun x s => x = nI m ∧ Fr (fkND m) σ s ∧ s.1 103 111 = nI (m + 1) ∧ s.1 164 m = k ∧ s.1 165 m = wh ∧ s.1 166 m = -1 ∧ s.1 167 m = -1 ∧ s.1 168 m = -1 ∧ s.1 176 m = 0) := by
  have e : (nI m).toNatClampNeg = m := nI_clamp (by omega)
  have vi : vp_in (nI m) 3000 := vp_in_nI hm (by decide)
  have e1 : nI m + 1 = nI (m + 1) := (nI_succ m).symm
  refine S_M_node ?_
  rw [h, e, e1]
  have fr : ∀ c, (Nat.beq c 164 || Nat.beq c 165 || Nat.beq c 166 || Nat.beq c 167 || Nat.beq c 168 || Nat.beq c 176) = true → fkND m c m = true := fun c hc => by
    unfold fkND
    rw [hc, Nat.beq_refl]
    rfl
  refine ⟨vi, vi, vi, vi, vi, vi, rfl, ((((((Fr.rf.sI (fr 164 rfl)).sI (fr 165 rfl)).sI (fr 166 rfl)).sI (fr 167 rfl)).sI (fr 168 rfl)).sI (fr 176 rfl)).sI (by unfold fkND; simp), sI_ss, ?_, ?_, ?_, ?_, ?_, ?_⟩
  all_goals
    repeat first | exact sI_ss | refine (congrFun (sI_o (by decide)) _).trans ?_
end AT
