/-! WHAT HOLDS BETWEEN TWO CALLS -/
/-- between two calls -/
def IV (σ : fkS) : Prop := (∃ t n, tB σ t n) ∧ σ.1 0 6 = σ.1 103 2 ∧ (σ.2.2 0 3 = 4 ∧ σ.2.2 0 4 = 25 ∧ σ.2.2 0 10 = 63 ∧ σ.2.2 0 11 = 76) ∧ KN σ ∧ TB σ ∧ rA σ ∧ rO σ ∧ rS σ ∧ KPs σ
/-- behind a call: so, or with the two parts' names changed -/
def JV (σ : fkS) : Prop := IV σ ∨ IV (rnS swM σ) ∨ IV (rnS swP σ)
section IVs
variable {σ σ' : fkS} {S : Nat → Nat → Bool}
theorem iv_tB {t : Nat → UInt8} {n : Nat} (h : tB σ t n) (f : Fr S σ σ') (h01 : S 0 1 = false) (h1 : ∀ j, S 1 j = false) (h31 : S 103 1 = false) (h4 : ∀ j, S 104 j = false) : tB σ' t n :=
  ⟨h.1, ⟨(f _ _ h01).1.trans h.2.1.1, fun k hk => (f _ _ (h1 k)).1.trans (h.2.1.2 k hk)⟩, ⟨(f _ _ h31).1.trans h.2.2.1, fun k hk => (f _ _ (h4 k)).1.trans (h.2.2.2 k hk)⟩⟩
theorem iv_t0 {t : Nat → UInt8} (h1 : σ.1 0 1 = 0) (h2 : σ.1 103 1 = 0) : tB σ t 0 := ⟨Nat.zero_le _, ⟨h1, fun k hk => absurd hk (Nat.not_lt_zero k)⟩, ⟨h2, fun k hk => absurd hk (Nat.not_lt_zero k)⟩⟩
theorem iv_p (h : σ.1 0 6 = σ.1 103 2) (f : Fr S σ σ') (h1 : S 0 6 = false) (h2 : S 103 2 = false) : σ'.1 0 6 = σ'.1 103 2 := ((f _ _ h1).1.trans h).trans (f _ _ h2).1.symm
theorem iv_KN (h : KN σ) (f : Fr S σ σ') (h0 : ∀ c j, kK c j = true → S c j = false) (h5 : ∀ c j, 105 ≤ c → c ≤ 138 → S c j = false) : KN σ' := by
  rcases h with ⟨h1, h2, b, hb, h3⟩ | ⟨t, n, m, b, hK⟩
  · exact Or.inl ⟨(f 0 5 (h0 _ _ rfl)).1.trans h1, (f 103 39 (h0 _ _ rfl)).1.trans h2, b, hb, (f 103 37 (h0 _ _ rfl)).1.trans h3⟩
  · exact Or.inr ⟨t, n, m, b, hK.fr f h0 (bkF0_lo h5)⟩
theorem iv_TB (h : TB σ) (f : Fr S σ σ') (h5 : ∀ j, S 105 j = false) : TB σ' := h.eq fun j => (f _ _ (h5 j)).1
theorem iv_rA (h : rA σ) (f : Fr S σ σ') (h2 : ∀ j, S 2 j = false) (h9 : ∀ j, S 149 j = false) : rA σ' := fun k hk => ((f _ _ (h2 k)).2.1.trans (h k hk)).trans (f _ _ (h9 k)).2.1.symm
theorem iv_rO (h : rO σ) (f : Fr S σ σ') (h5 : S 0 15 = false) (h6 : S 0 16 = false) (h7 : S 0 17 = false) (g5 : S 103 75 = false) (g6 : S 103 76 = false) (g7 : S 103 77 = false) : rO σ' :=
  ⟨((f _ _ h5).2.1.trans h.1).trans (f _ _ g5).2.1.symm, ((f _ _ h6).1.trans h.2.1).trans (f _ _ g7).1.symm, ((f _ _ h7).1.trans h.2.2).trans (f _ _ g6).1.symm⟩
theorem iv_rS (h : rS σ) (f : Fr S σ σ') (h5 : S 98 9 = false) (h6 : S 98 10 = false) (h7 : S 98 11 = false) (g5 : S 103 139 = false) (g6 : S 103 140 = false) (g7 : S 103 141 = false) : rS σ' :=
  ⟨((f _ _ h5).1.trans h.1).trans (f _ _ g5).1.symm, ((f _ _ h6).1.trans h.2.1).trans (f _ _ g6).1.symm, ((f _ _ h7).1.trans h.2.2).trans (f _ _ g7).1.symm⟩
/-- by the numbers in its cells alone -/
theorem iv_KPe (h : KPs σ) (h1 : ∀ c j, 62 ≤ c → c ≤ 72 → σ'.1 c j = σ.1 c j ∧ σ'.2.1 c j = σ.2.1 c j) (h2 : ∀ c j, 180 ≤ c → c ≤ 185 → σ'.1 c j = σ.1 c j) (h3 : σ'.1 103 126 = σ.1 103 126) : KPs σ' := by
  rcases h with ⟨k1, k2⟩ | ⟨t, n, D, hP, ⟨⟨x1, x2, x3⟩, x4, x5⟩, ⟨⟨m1, m2'⟩, m3, m4⟩⟩
  · exact Or.inl ⟨(h1 62 0 (by decide) (by decide)).1.trans k1, h3.trans k2⟩
  · refine Or.inr ⟨t, n, D, hP, ⟨⟨(h1 62 9 (by decide) (by decide)).1.trans x1, x2, fun i e he => ⟨(h1 71 i (by decide) (by decide)).1.trans (x3 i e he).1, (h1 72 i (by decide) (by decide)).2.trans (x3 i e he).2⟩⟩, fun f q hq => ?_, (h1 62 0 (by decide) (by decide)).1.trans x5⟩, ⟨⟨m1, fun i q hq => ?_⟩, fun f q hq => ?_, h3.trans m4⟩⟩
    · obtain ⟨a1, a2, a3, a4⟩ := x4 f q hq
      exact ⟨(h1 65 f (by decide) (by decide)).1.trans a1, (h1 67 f (by decide) (by decide)).1.trans a2, (h1 66 f (by decide) (by decide)).1.trans a3, fun k a ha => (h1 70 _ (by decide) (by decide)).1.trans (a4 k a ha)⟩
    · rw [h2 180 i (by decide) (by decide), h2 181 i (by decide) (by decide), h2 182 i (by decide) (by decide)]
      exact m2' i q hq
    · rw [h2 183 f (by decide) (by decide), h2 184 f (by decide) (by decide), h2 185 f (by decide) (by decide)]
      exact m3 f q hq
theorem iv_KP (h : KPs σ) (f : Fr S σ σ') (h1 : ∀ c j, 62 ≤ c → c ≤ 72 → S c j = false) (h2 : ∀ c j, 180 ≤ c → c ≤ 185 → S c j = false) (h3 : S 103 126 = false) : KPs σ' :=
  iv_KPe h (fun c j a b => ⟨(f c j (h1 c j a b)).1, (f c j (h1 c j a b)).2.1⟩) (fun c j a b => (f c j (h2 c j a b)).1) (f _ _ h3).1
/-- the kept module does not lie in the cells of PROGRAMS -/
theorem iv_KNp (h : KN σ) : KN (rnS swP σ) := by
  have f : Fr (fun c _ => Nat.ble 62 c && Nat.ble c 87) σ ((rnS swP σ).1, (rnS swP σ).2.1, σ.2.2) := fun c j hc => by
    have e : swP c = c := by
      unfold swP
      have : ¬ (62 ≤ c ∧ c ≤ 87) := fun z => by
        have hc' : (Nat.ble 62 c && Nat.ble c 87) = false := hc
        rw [Nat.ble_eq_true_of_le z.1, Nat.ble_eq_true_of_le z.2] at hc'
        cases hc'
      rw [swp_eq, if_neg (by omega), if_neg (by omega)]
    refine ⟨?_, ?_, rfl⟩
    · show σ.1 (swP c) j = σ.1 c j
      rw [e]
    · show σ.2.1 (swP c) j = σ.2.1 c j
      rw [e]
  have no : ∀ c j, ¬ (62 ≤ c ∧ c ≤ 87) → (fun c _ => Nat.ble 62 c && Nat.ble c 87 : Nat → Nat → Bool) c j = false := fun c j hc => by
    show (Nat.ble 62 c && Nat.ble c 87) = false
    cases e : (Nat.ble 62 c && Nat.ble c 87)
    · rfl
    · rw [Bool.and_eq_true, Nat.ble_eq, Nat.ble_eq] at e
      exact absurd e hc
  have h2 : KN ((rnS swP σ).1, (rnS swP σ).2.1, σ.2.2) := iv_KN h f (fun c j hk => no c j fun z => by
    unfold kK at hk
    simp only [Bool.or_eq_true, Bool.and_eq_true, Nat.beq_eq, Nat.ble_eq] at hk
    omega) fun c j a b => no c j (by omega)
  rcases h with ⟨h1, -, -⟩ | ⟨t, n, m, b, hK⟩
  · rcases h2 with ⟨a1, a2, a3⟩ | ⟨t, n, m, b, hK⟩
    · exact Or.inl ⟨a1, a2, a3⟩
    · have e1 : (rnS swP σ).1 0 5 = 1 := hK.1
      have e2 : (rnS swP σ).1 0 5 = σ.1 0 5 := rfl
      rw [e2, h1] at e1
      exact absurd e1 (by decide)
  · have r0 : (rnS swP σ).2.2 56 0 = 4 := by
      show rnR swP (σ.2.2 56 0) = 4
      rw [hK.2.2.2.2.2.2.2.2.2.1]
      rfl
    have r1 : (rnS swP σ).2.2 56 1 = 16 := by
      show rnR swP (σ.2.2 56 1) = 16
      rw [hK.2.2.2.2.2.2.2.2.2.2.1]
      rfl
    rcases h2 with ⟨a1, -, -⟩ | ⟨t2, n2, m2, b2, x1, x2, x3, x4, x5, x6, x7, x8, x9, x10, x11, ⟨p, mm, x12⟩, x13⟩
    · have e1 : (rnS swP σ).1 0 5 = 0 := a1
      have e2 : (rnS swP σ).1 0 5 = σ.1 0 5 := rfl
      rw [e2, hK.1] at e1
      exact absurd e1 (by decide)
    · exact Or.inr ⟨t2, n2, m2, b2, x1, x2, x3, x4, x5, x6.eq fun c j _ _ => ⟨rfl, rfl⟩, x7.eq fun j => rfl, x8, x9, r0, r1, ⟨p, mm, x12⟩, x13⟩
theorem JV.of (h : IV σ) : JV σ := Or.inl h
theorem KPc_of2 {t : Nat → UInt8} {D : List FD} (h : KPx t D σ) : KPc t D (rnS swP σ) := by
  obtain ⟨⟨h1, h2, h3⟩, h4, h5⟩ := h
  refine ⟨⟨h1, h2, fun i e he => ⟨(h3 i e he).1, (h3 i e he).2.1⟩⟩, fun f q hq => ?_, h5⟩
  obtain ⟨-, -, a3, a4, a5, -, a7⟩ := h4 f q hq
  exact ⟨a3, a5, a4, fun k a ha => (a7 k a ha).2.2⟩
end IVs
theorem fkCl_no {c j : Nat} (h : ¬ ((c = 0 ∧ 15 ≤ j ∧ j ≤ 17) ∨ (98 ≤ c ∧ c ≤ 102) ∨ (c = 103 ∧ ((75 ≤ j ∧ j ≤ 77) ∨ (133 ≤ j ∧ j ≤ 142))) ∨ (186 ≤ c ∧ c ≤ 190))) : fkCl c j = false := by
  cases e : fkCl c j
  · rfl
  · unfold fkCl at e
    simp only [Bool.or_eq_true, Bool.and_eq_true, Nat.beq_eq, Nat.ble_eq] at e
    omega
theorem fkPgA_no {c j : Nat} (h : ¬ ((c = 0 ∧ (j = 1 ∨ j = 10 ∨ j = 11)) ∨ (75 ≤ c ∧ c ≤ 97) ∨ (c = 103 ∧ (j = 1 ∨ (79 ≤ j ∧ j ≤ 118) ∨ (125 ≤ j ∧ j ≤ 132))) ∨ (154 ≤ c ∧ c ≤ 185))) : fkPgA c j = false := by
  cases e : fkPgA c j
  · rfl
  · unfold fkPgA fkPX fkPQ fkPM at e
    simp only [Bool.or_eq_true, Bool.and_eq_true, Nat.beq_eq, Nat.ble_eq] at e
    omega
theorem sMod_no {c j : Nat} (h : ¬ ((c = 0 ∧ (j = 1 ∨ (3 ≤ j ∧ j ≤ 6))) ∨ (24 ≤ c ∧ c ≤ 59) ∨ (c = 103 ∧ j ≤ 62) ∨ (105 ≤ c ∧ c ≤ 148))) : sMod c j = false := by
  cases e : sMod c j
  · rfl
  · unfold sMod at e
    simp only [Bool.or_eq_true, Bool.and_eq_true, Nat.beq_eq, Nat.ble_eq] at e
    omega
theorem kK_in {c j : Nat} (h : kK c j = true) : (c = 0 ∧ j = 5) ∨ (3 ≤ c ∧ c ≤ 23) ∨ (56 ≤ c ∧ c ≤ 59) ∨ (c = 103 ∧ (j = 37 ∨ j = 39 ∨ j = 62)) ∨ (146 ≤ c ∧ c ≤ 148) := by
  unfold kK at h
  simp only [Bool.or_eq_true, Bool.and_eq_true, Nat.beq_eq, Nat.ble_eq] at h
  omega
theorem fkT2_no {c j : Nat} (h : ¬ (c = 1 ∨ (c = 0 ∧ j = 1) ∨ c = 104 ∨ (c = 103 ∧ j = 1))) : fkT2 c j = false := by
  cases e : fkT2 c j
  · rfl
  · unfold fkT2 fkTX fkTM at e
    simp only [Bool.or_eq_true, Bool.and_eq_true, Nat.beq_eq] at e
    omega
theorem fkA_no {c j : Nat} (h : ¬ (c = 2 ∨ c = 149)) : fkA c j = false := by
  cases e : fkA c j
  · rfl
  · unfold fkA at e
    simp only [Bool.or_eq_true, Nat.beq_eq] at e
    omega
/-- every call keeps it -/
theorem iv_ops {σ : fkS} (h : IV σ) : OPS JV σ := by
  have h' := h
  obtain ⟨⟨t, n, hB⟩, h6, ⟨r3, r4, r10, r11⟩, hK, hT, hA, hO, hS, hP⟩ := h
  refine ⟨fun a0 a1 a2 a3 a4 => ?_, fun a0 => ?_, ?_, fun a0 => ?_, fun a0 a1 => ?_, fun a0 a1 => ?_, fun a0 a1 => ?_, fun a0 => ?_, fun a0 => ?_, fun a0 => ?_, fun a0 => ?_, fun a0 => ?_, fun a0 => ?_, fun a0 => ?_⟩
  · refine op_feed (d := 1999) hB (fun σ2 t2 n2 hB2 f => JV.of ⟨⟨t2, n2, hB2⟩, iv_p h6 f (fkT2_no (by omega)) (fkT2_no (by omega)), ⟨(f 0 3 (fkT2_no (by omega))).2.2.trans r3, (f 0 4 (fkT2_no (by omega))).2.2.trans r4, (f 0 10 (fkT2_no (by omega))).2.2.trans r10, (f 0 11 (fkT2_no (by omega))).2.2.trans r11⟩, iv_KN hK f (fun c j hk => fkT2_no (by have := kK_in hk; omega)) (fun c j _ _ => fkT2_no (by omega)), iv_TB hT f (fun j => fkT2_no (by omega)), iv_rA hA f (fun j => fkT2_no (by omega)) (fun j => fkT2_no (by omega)), iv_rO hO f (fkT2_no (by omega)) (fkT2_no (by omega)) (fkT2_no (by omega)) (fkT2_no (by omega)) (fkT2_no (by omega)) (fkT2_no (by omega)), iv_rS hS f (fkT2_no (by omega)) (fkT2_no (by omega)) (fkT2_no (by omega)) (fkT2_no (by omega)) (fkT2_no (by omega)) (fkT2_no (by omega)), iv_KP hP f (fun c j _ _ => fkT2_no (by omega)) (fun c j _ _ => fkT2_no (by omega)) (fkT2_no (by omega))⟩) a0 a1 a2 a3 a4
  · have rest : ∀ σ2, Fr sMod σ σ2 → rA σ2 ∧ rO σ2 ∧ rS σ2 ∧ KPs σ2 ∧ σ2.2.2 0 10 = 63 ∧ σ2.2.2 0 11 = 76 := fun σ2 f => ⟨iv_rA hA f (fun j => sMod_no (by omega)) (fun j => sMod_no (by omega)), iv_rO hO f (sMod_no (by omega)) (sMod_no (by omega)) (sMod_no (by omega)) (sMod_no (by omega)) (sMod_no (by omega)) (sMod_no (by omega)), iv_rS hS f (sMod_no (by omega)) (sMod_no (by omega)) (sMod_no (by omega)) (sMod_no (by omega)) (sMod_no (by omega)) (sMod_no (by omega)), iv_KP hP f (fun c j _ _ => sMod_no (by omega)) (fun c j _ _ => sMod_no (by omega)) (sMod_no (by omega)), (f 0 10 (sMod_no (by omega))).2.2.trans r10, (f 0 11 (sMod_no (by omega))).2.2.trans r11⟩
    refine op_module (d := 1989) hB.2.1 hB.2.2 hB.1 r3 r4 hK a0 (JV.of h') (fun σ2 f e1 e2 e3 g3 g4 k2 tb => ?_) (fun σ2 f e1 e2 e3 g3 g4 k2 tb => ?_)
    · obtain ⟨z1, z2, z3, z4, z5, z6⟩ := rest σ2 f
      exact JV.of ⟨⟨t, 0, iv_t0 e1 e2⟩, e3, ⟨g3, g4, z5, z6⟩, k2, tb hT, z1, z2, z3, z4⟩
    · obtain ⟨z1, z2, z3, z4, z5, z6⟩ := rest σ2 f
      have q3 : (rnS swM σ2).2.2 0 3 = 4 := by show rnR swM (σ2.2.2 0 3) = 4; rw [g3]; rfl
      have q4 : (rnS swM σ2).2.2 0 4 = 25 := by show rnR swM (σ2.2.2 0 4) = 25; rw [g4]; rfl
      have q10 : (rnS swM σ2).2.2 0 10 = 63 := by show rnR swM (σ2.2.2 0 10) = 63; rw [z5]; rfl
      have q11 : (rnS swM σ2).2.2 0 11 = 76 := by show rnR swM (σ2.2.2 0 11) = 76; rw [z6]; rfl
      refine Or.inr (Or.inl ⟨⟨t, 0, iv_t0 e1 e2⟩, e3, ⟨q3, q4, q10, q11⟩, k2, (tb hT).eq fun j => rfl, z1, z2, z3, iv_KPe z4 (fun c j a b => ?_) (fun c j a b => ?_) rfl⟩)
      · show σ2.1 (swM c) j = σ2.1 c j ∧ σ2.2.1 (swM c) j = σ2.2.1 c j
        rw [swM_out (by omega)]
        exact ⟨rfl, rfl⟩
      · show σ2.1 (swM c) j = σ2.1 c j
        rw [swM_out (by omega)]
  · exact op_place h6 (JV.of h')
  · exact op_count r3 hK (JV.of h') a0
  · exact op_export (d := 1998) r3 hK (JV.of h') a0 a1
  · refine op_argument (d := 1999) hA (fun σ2 hA2 f => JV.of ⟨⟨t, n, iv_tB hB f (fkA_no (by omega)) (fun j => fkA_no (by omega)) (fkA_no (by omega)) (fun j => fkA_no (by omega))⟩, iv_p h6 f (fkA_no (by omega)) (fkA_no (by omega)), ⟨(f 0 3 (fkA_no (by omega))).2.2.trans r3, (f 0 4 (fkA_no (by omega))).2.2.trans r4, (f 0 10 (fkA_no (by omega))).2.2.trans r10, (f 0 11 (fkA_no (by omega))).2.2.trans r11⟩, iv_KN hK f (fun c j hk => fkA_no (by have := kK_in hk; omega)) (fun c j _ _ => fkA_no (by omega)), iv_TB hT f (fun j => fkA_no (by omega)), hA2, iv_rO hO f (fkA_no (by omega)) (fkA_no (by omega)) (fkA_no (by omega)) (fkA_no (by omega)) (fkA_no (by omega)) (fkA_no (by omega)), iv_rS hS f (fkA_no (by omega)) (fkA_no (by omega)) (fkA_no (by omega)) (fkA_no (by omega)) (fkA_no (by omega)) (fkA_no (by omega)), iv_KP hP f (fun c j _ _ => fkA_no (by omega)) (fun c j _ _ => fkA_no (by omega)) (fkA_no (by omega))⟩) a0 a1
  · refine op_run (d := 1580) r3 hK hA hT a0 a1 (JV.of h') (fun σ2 k2 o2 f => JV.of ⟨⟨t, n, iv_tB hB f (sRa_not (by omega)) (fun j => sRa_not (by omega)) (sRa_not (by omega)) (fun j => sRa_not (by omega))⟩, iv_p h6 f (sRa_not (by omega)) (sRa_not (by omega)), ⟨(f 0 3 (sRa_not (by omega))).2.2.trans r3, (f 0 4 (sRa_not (by omega))).2.2.trans r4, (f 0 10 (sRa_not (by omega))).2.2.trans r10, (f 0 11 (sRa_not (by omega))).2.2.trans r11⟩, k2, iv_TB hT f (fun j => sRa_not (by omega)), iv_rA hA f (fun j => sRa_not (by omega)) (fun j => sRa_not (by omega)), o2, iv_rS hS f (sRa_not (by omega)) (sRa_not (by omega)) (sRa_not (by omega)) (sRa_not (by omega)) (sRa_not (by omega)) (sRa_not (by omega)), iv_KP hP f (fun c j _ _ => sRa_not (by omega)) (fun c j _ _ => sRa_not (by omega)) (sRa_not (by omega))⟩)
  · exact op_outcome hO (JV.of h') a0
  · exact op_global (d := 1999) r3 hK (JV.of h') a0
  · exact op_memory (d := 1999) hK (JV.of h') a0
  · exact op_table hK (JV.of h') a0
  · have rest : ∀ σ2, Fr fkPgA σ σ2 → σ2.1 0 6 = σ2.1 103 2 ∧ KN σ2 ∧ TB σ2 ∧ rA σ2 ∧ rO σ2 ∧ rS σ2 ∧ σ2.2.2 0 3 = 4 ∧ σ2.2.2 0 4 = 25 := fun σ2 f => ⟨iv_p h6 f (fkPgA_no (by omega)) (fkPgA_no (by omega)), iv_KN hK f (fun c j hk => fkPgA_no (by have := kK_in hk; omega)) (fun c j _ _ => fkPgA_no (by omega)), iv_TB hT f (fun j => fkPgA_no (by omega)), iv_rA hA f (fun j => fkPgA_no (by omega)) (fun j => fkPgA_no (by omega)), iv_rO hO f (fkPgA_no (by omega)) (fkPgA_no (by omega)) (fkPgA_no (by omega)) (fkPgA_no (by omega)) (fkPgA_no (by omega)) (fkPgA_no (by omega)), iv_rS hS f (fkPgA_no (by omega)) (fkPgA_no (by omega)) (fkPgA_no (by omega)) (fkPgA_no (by omega)) (fkPgA_no (by omega)) (fkPgA_no (by omega)), (f 0 3 (fkPgA_no (by omega))).2.2.trans r3, (f 0 4 (fkPgA_no (by omega))).2.2.trans r4⟩
    refine op_program hB.2.1 hB.2.2 hB.1 r10 r11 a0 (JV.of h') (fun σ2 f hrow e1 e2 g10 g11 => ?_) (fun k D σ2 f e1 e2 g10 g11 hok hx hm => ?_)
    · obtain ⟨z1, z2, z3, z4, z5, z6, z7, z8⟩ := rest σ2 f
      exact JV.of ⟨⟨t, 0, iv_t0 e1 e2⟩, z1, ⟨z7, z8, g10, g11⟩, z2, z3, z4, z5, z6, iv_KPe hP (fun c j a b => ⟨(f c j (fkPgA_no (by omega))).1, (f c j (fkPgA_no (by omega))).2.1⟩) (fun c j a b => hrow c j (Or.inl ⟨a, b⟩)) (hrow 103 126 (Or.inr ⟨rfl, by decide⟩))⟩
    · obtain ⟨z1, z2, z3, z4, z5, z6, z7, z8⟩ := rest σ2 f
      have q3 : (rnS swP σ2).2.2 0 3 = 4 := by show rnR swP (σ2.2.2 0 3) = 4; rw [z7]; rfl
      have q4 : (rnS swP σ2).2.2 0 4 = 25 := by show rnR swP (σ2.2.2 0 4) = 25; rw [z8]; rfl
      have q10 : (rnS swP σ2).2.2 0 10 = 63 := by show rnR swP (σ2.2.2 0 10) = 63; rw [g10]; rfl
      have q11 : (rnS swP σ2).2.2 0 11 = 76 := by show rnR swP (σ2.2.2 0 11) = 76; rw [g11]; rfl
      refine Or.inr (Or.inr ⟨⟨t, 0, iv_t0 e1 e2⟩, z1, ⟨q3, q4, q10, q11⟩, iv_KNp z2, z3.eq fun j => rfl, z4, z5, z6, Or.inr ⟨t, k, D, hok, KPc_of2 hx, ⟨⟨hm.1.2.1, fun i q hq => ?_⟩, TR2_of (fun A q Z e => ?_), hm.2.2⟩⟩⟩)
      · exact hm.1.2.2 i q hq
      · exact hm.2.1 A q Z e
  · refine op_call (d := 1995) r10 hA hP (JV.of h') (fun σ2 f g10 o2 s2 => JV.of ⟨⟨t, n, iv_tB hB f (fkCl_no (by omega)) (fun j => fkCl_no (by omega)) (fkCl_no (by omega)) (fun j => fkCl_no (by omega))⟩, iv_p h6 f (fkCl_no (by omega)) (fkCl_no (by omega)), ⟨(f 0 3 (fkCl_no (by omega))).2.2.trans r3, (f 0 4 (fkCl_no (by omega))).2.2.trans r4, g10, (f 0 11 (fkCl_no (by omega))).2.2.trans r11⟩, iv_KN hK f (fun c j hk => fkCl_no (by have := kK_in hk; omega)) (fun c j _ _ => fkCl_no (by omega)), iv_TB hT f (fun j => fkCl_no (by omega)), iv_rA hA f (fun j => fkCl_no (by omega)) (fun j => fkCl_no (by omega)), o2, s2, iv_KP hP f (fun c j _ _ => fkCl_no (by omega)) (fun c j _ _ => fkCl_no (by omega)) (fkCl_no (by omega))⟩) a0
  · exact op_spent hS (JV.of h') a0
/-- a new object -/
theorem iv_0 : IV fk_s0 := by
  refine ⟨⟨fun _ => 0, 0, iv_t0 rfl rfl⟩, rfl, ⟨rfl, rfl, rfl, rfl⟩, Or.inl ⟨rfl, rfl, 0, by decide, rfl⟩, fun k _ => ⟨0, rfl⟩, fun k _ => rfl, ⟨rfl, rfl, rfl⟩, ⟨rfl, rfl, rfl⟩, Or.inl ⟨rfl, rfl⟩⟩
