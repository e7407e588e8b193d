/-! THE CALLS THAT LOOK AT A MODULE; module -/
def sMod (c j : Nat) : Bool := (Nat.beq c 0 && (Nat.beq j 1 || Nat.beq j 3 || Nat.beq j 4 || Nat.beq j 5 || Nat.beq j 6)) || (Nat.ble 24 c && Nat.ble c 59) || (Nat.beq c 103 && Nat.ble j 62) || (Nat.ble 105 c && Nat.ble c 148)
theorem sC1_mod {c j : Nat} (h : sC1 c j = true) : sMod c j = true := by
  unfold sC1 at h
  unfold sMod
  simp only [Bool.or_eq_true, Bool.and_eq_true, Nat.beq_eq, Nat.ble_eq] at h ⊢
  omega
theorem sMF_mod {b c j : Nat} (h : (sMF b c j || sMm c j) = true) : sMod c j = true := by
  rw [Bool.or_eq_true] at h
  rcases h with h | h
  · have := sMF_in h
    unfold sMod
    simp only [Bool.or_eq_true, Bool.and_eq_true, Nat.beq_eq, Nat.ble_eq]
    omega
  · unfold sMm at h
    unfold sMod
    simp only [Bool.or_eq_true, Bool.and_eq_true, Nat.beq_eq, Nat.ble_eq] at h ⊢
    omega
theorem sC0_kK {c j : Nat} (h : kK c j = true) : sC0 c j = false := by
  cases hh : sC0 c j
  · rfl
  · unfold kK at h
    unfold sC0 at hh
    simp only [Bool.or_eq_true, Bool.and_eq_true, Nat.beq_eq, Nat.ble_eq] at h hh
    omega
theorem sC1_hi {c j : Nat} (h : 60 ≤ c) : sC1 c j = false := by
  cases hh : sC1 c j
  · rfl
  · unfold sC1 at hh
    simp only [Bool.or_eq_true, Bool.and_eq_true, Nat.beq_eq, Nat.ble_eq] at hh
    omega
theorem bkF0_lo {b : Nat} {S : Nat → Nat → Bool} (h : ∀ c j, 105 ≤ c → c ≤ 138 → S c j = false) : bkF0 b S := by
  refine ⟨fun c k h1 h2 _ hs => ?_, fun c j hc _ => h c _ (by omega) (by omega), fun j _ => h _ _ (by decide) (by decide), fun c j hc _ => h c _ (by omega) (by omega), fun c hc => h c _ (by omega) (by omega)⟩
  rw [h c _ h1 h2] at hs
  cases hs
theorem KN.b {σ : fkS} (h : KN σ) : ∃ b, b < 2 ∧ σ.1 103 37 = nI b := by
  rcases h with ⟨-, -, h⟩ | ⟨t, n, m, b, -, -, h1, h2, -⟩
  · exact h
  · exact ⟨b, h1, h2⟩
theorem by8_0 (k : Nat) : by8 0 k = 0 := by
  unfold by8
  apply UInt8.toBitVec_inj.mp
  show BitVec.setWidth 8 ((0#64) >>> (8 * k)) = 0#8
  rw [BitVec.zero_ushiftRight]
  rfl
section OPM
variable {t : Nat → UInt8} {n d : Nat} {σ : fkS} {J : fkS → Prop}
theorem op_module (hX : tX σ t n) (hM : tM σ t n) (hn : n ≤ 4000) (h03 : σ.2.2 0 3 = 4) (h04 : σ.2.2 0 4 = 25) (hK : KN σ) (a0 : Int32) (hJ0 : J σ)
    (hJ1 : ∀ σ2, Fr sMod σ σ2 → σ2.1 0 1 = 0 → σ2.1 103 1 = 0 → σ2.1 0 6 = σ2.1 103 2 → σ2.2.2 0 3 = 4 → σ2.2.2 0 4 = 25 → KN σ2 → (TB σ → TB σ2) → J σ2)
    (hJ2 : ∀ σ2, Fr sMod σ σ2 → σ2.1 0 1 = 0 → σ2.1 103 1 = 0 → σ2.1 0 6 = σ2.1 103 2 → σ2.2.2 0 3 = 25 → σ2.2.2 0 4 = 4 → KN (rnS swM σ2) → (TB σ → TB σ2) → J σ2) :
    Ci (d + 11) 15 [.ref 0, .int a0] σ (fun r σ1 => Ci (d + 11) 239 [.ref 103, .int a0] σ1 (fun r2 σ2 => r = r2 ∧ J σ2)) := by
  by_cases z : a0 < 0
  · exact S_X_module (d := d + 10) h04 ⟨fun _ => S_M_module (d := d + 10) ⟨fun _ => ⟨rfl, hJ0⟩, fun y => absurd z y⟩, fun y => absurd z y⟩
  by_cases w : a0 ≤ nI n
  · obtain ⟨k, hk, rfl⟩ := nI_of2 (nI_toInt (by omega)) z w
    obtain ⟨b0, hb0, h37⟩ := hK.b
    have hb : 1 - b0 < 2 := by omega
    refine (c_module (d := d + 2) hX hn hk h03 h04).mono fun x σ1 hx => ?_
    obtain ⟨r, rfl, hx⟩ := Qi_s hx
    have f1 : Fr sC1 σ σ1 := by
      unfold modX at hx
      split at hx
      · exact hx.2.1.c01
      · rcases hx with h | h | h
        · exact h.2.2.1.c01
        · exact h.2.2.2.1.c01
        · exact h.2.2.2.1
    have hM1 : tM σ1 t n := ⟨(f1 103 1 rfl).1.trans hM.1, fun j hj => (f1 104 j rfl).1.trans (hM.2 j hj)⟩
    have h371 : σ1.1 103 37 = nI (1 - (1 - b0)) := by
      rw [(f1 103 37 rfl).1, h37]
      congr 1
      omega
    refine (m_module (d := d) hM1 hn hk hb h371).mono fun x σ2 hx2 => ?_
    obtain ⟨r2, rfl, hx2, hTB0⟩ := Qi_s hx2
    have hTB : TB σ → TB σ2 := fun q => hTB0 (q.eq fun j => (f1 105 j rfl).1)
    have hKold : Fr sC0 σ σ1 → Fr (sMF (1 - b0)) σ1 σ2 → KN σ2 := fun g1 g2 => by
      rcases hK with ⟨u1, u2, b, u3, u4⟩ | ⟨t2, n2, m2, b2, hKP⟩
      · exact .inl ⟨(g2 0 5 (sMF_kK rfl)).1.trans ((g1 0 5 rfl).1.trans u1), (g2 103 39 (sMF_kK rfl)).1.trans ((g1 103 39 rfl).1.trans u2), b, u3, (g2 103 37 (sMF_kK rfl)).1.trans ((g1 103 37 rfl).1.trans u4)⟩
      · have hb2 : b2 = b0 := by
          have := h37.symm.trans hKP.2.2.2.1
          have h9 := hKP.2.2.1
          exact ((nI_eq (by omega) (by omega)).mp this).symm
        refine .inr ⟨t2, n2, m2, b2, (hKP.fr g1 (fun c j => sC0_kK) (bkF0_lo fun c j a b => ?_)).fr g2 (fun c j => sMF_kK) (sMF_bk (by omega))⟩
        cases hh : sC0 c j
        · rfl
        · unfold sC0 at hh
          simp only [Bool.or_eq_true, Bool.and_eq_true, Nat.beq_eq, Nat.ble_eq] at hh
          omega
    have fin : ∀ v w : Int32, r = v → r2 = v → Fr sC0 σ σ1 → Fr (sMF (1 - b0)) σ1 σ2 → σ1.1 0 1 = 0 → σ2.1 103 1 = 0 → σ1.1 0 6 = w → σ2.1 103 2 = w → r = r2 ∧ J σ2 := fun v w e1 e2 g1 g2 a1 a2 a3 a4 => by
      refine ⟨e1.trans e2.symm, hJ1 σ2 ((g1.c01.mono fun c j => sC1_mod).tr (g2.mono fun c j q => sMF_mod (by rw [q]; rfl))) ?_ a2 ?_ ?_ ?_ (hKold g1 g2) hTB⟩
      · exact (g2 0 1 (by cases hh : sMF (1 - b0) 0 1; rfl; exact absurd (sMF_in hh) (by omega))).1.trans a1
      · rw [a4]
        exact (g2 0 6 (by cases hh : sMF (1 - b0) 0 6; rfl; exact absurd (sMF_in hh) (by omega))).1.trans a3
      · exact (g2 0 3 (by cases hh : sMF (1 - b0) 0 3; rfl; exact absurd (sMF_in hh) (by omega))).2.2.trans ((g1 0 3 rfl).2.2.trans h03)
      · exact (g2 0 4 (by cases hh : sMF (1 - b0) 0 4; rfl; exact absurd (sMF_in hh) (by omega))).2.2.trans ((g1 0 4 rfl).2.2.trans h04)
    unfold modX at hx
    unfold modM at hx2
    show r = r2 ∧ J σ2
    cases hp : pMo t k with
    | inr y =>
      obtain ⟨w, pl⟩ := y
      rw [hp] at hx hx2
      exact fin w pl hx.1 hx2.1 hx.2.1 hx2.2.1 hx.2.2.1 hx2.2.2.1 hx.2.2.2 hx2.2.2.2
    | inl y =>
      obtain ⟨m, q⟩ := y
      rw [hp] at hx hx2
      rcases hx with ⟨x1, x2, x3, x4, x5⟩ | ⟨x1, x0, x2, x3, x4, x5⟩ | ⟨x1, x0, x2, x3, x4, x5, x6, x7, x8, x9, x10, x11, x12, x13⟩
      · rcases hx2 with ⟨y1, y2, y3, y4, y5⟩ | ⟨y1, -⟩ | ⟨y1, -⟩
        · exact fin _ _ x2 y2 x3 y3 x4 y4 x5 y5
        · exact absurd y1 x1
        · exact absurd y1 x1
      · rcases hx2 with ⟨y1, -⟩ | ⟨y1, y0, y2, y3, y4, y5⟩ | ⟨y1, y0, -⟩
        · exact absurd x1 y1
        · exact fin _ _ x2 y2 x3 y3 x4 y4 x5 y5
        · rw [x0] at y0
          cases y0
      · rcases hx2 with ⟨y1, -⟩ | ⟨y1, y0, -⟩ | ⟨y1, y0, y2, y3, y4, y5, y6, y7, y8, y9, y10⟩
        · exact absurd x1 y1
        · rw [x0] at y0
          cases y0
        · have hl := pMo_len hp
          obtain ⟨hf, hok, hC4, hEl⟩ := pMo_ok (by omega) hl hp
          have hgc := pMo_can hp
          have lo : ∀ c j, c < 103 → (fun c j => sMF (1 - b0) c j || sMm c j) c j = false := fun c j hc => by
            cases hh : (fun c j => sMF (1 - b0) c j || sMm c j) c j
            · rfl
            · have h2 : (sMF (1 - b0) c j || sMm c j) = true := hh
              rw [Bool.or_eq_true] at h2
              rcases h2 with h2 | h2
              · exact absurd (sMF_in h2) (by omega)
              · unfold sMm at h2
                simp only [Bool.or_eq_true, Bool.and_eq_true, Nat.beq_eq] at h2
                omega
          obtain ⟨v1, v2, v3, v4, v5, v6, v7, v8, v9⟩ := vd_facts x1
          obtain ⟨g1, g2, g3, g4, g5⟩ := x8
          obtain ⟨k1, k2, k3, k4⟩ := y8
          have gl : ∀ (k : Nat) (x : Gl), (mdG m)[k]? = some x → σ2.2.1 57 k = σ2.2.1 146 k ∧ σ2.2.1 146 k = x.2.2.2 := fun k x hx => ⟨(y3 57 k (lo _ _ (by decide))).2.1.trans ((g1 k x hx).trans (k1 k x hx).symm), k1 k x hx⟩
          refine ⟨x2.trans y2.symm, hJ2 σ2 ((x3.mono fun c j => sC1_mod).tr (y3.mono fun c j q => sMF_mod q)) ((y3 0 1 (lo _ _ (by decide))).1.trans x4) y4 (by rw [y5]; exact (y3 0 6 (lo _ _ (by decide))).1.trans x5) ((y3 0 3 (lo _ _ (by decide))).2.2.trans x11) ((y3 0 4 (lo _ _ (by decide))).2.2.trans x12) (.inr ⟨t, k, m, 1 - b0, ?_⟩) hTB⟩
          refine ⟨(y3 0 5 (lo _ _ (by decide))).1.trans x13, y10, hb, y9, ⟨hl, hf, hok, pMo_rd hp, x1, by omega, hC4, hEl, x0⟩, ?_, ?_, y6, y7, ?_, ?_, ⟨pgN m, fun _ => 0, (lim_le v5).1, (y3 56 4 (lo _ _ (by decide))).1.trans g3, k3, fun i hi => ⟨?_, k2 i hi⟩, (y3 56 6 (lo _ _ (by decide))).1.trans g4, fun j hj => ⟨(y3 59 j (lo _ _ (by decide))).1.trans (g5 j hj), k4 j hj⟩, fun j hj => ?_⟩, fun j x hx h127 => ?_⟩
          · rw [rnS_rnS]
            exact x6.fr y3 fun c j a b => lo c j (by omega)
          · rw [rnS_rnS]
            exact x7.eq fun j => (y3 44 j (lo _ _ (by decide))).1
          · show rnR swM (σ2.2.2 56 0) = 4
            rw [(y3 56 0 (lo _ _ (by decide))).2.2, x9]
            rfl
          · show rnR swM (σ2.2.2 56 1) = 16
            rw [(y3 56 1 (lo _ _ (by decide))).2.2, x10]
            rfl
          · show by8 (σ2.2.1 58 (i / 8)) (i % 8) = 0
            rw [(y3 58 (i / 8) (lo _ _ (by decide))).2.1, g2 (i / 8) (by omega)]
            exact by8_0 _
          · exact (gl j _ (List.getElem?_eq_getElem hj)).1
          · show c32 (σ2.2.1 146 j)
            rw [(gl j x hx).2]
            have hkd := List.all_eq_true.mp v6 x (List.mem_of_getElem? hx)
            rw [decide_eq_true_iff] at hkd
            refine hgc x (List.mem_of_getElem? hx) ?_
            rw [hkd, h127]
            rfl
  · have wX : ¬ a0 ≤ σ.1 0 1 := by rw [hX.1]; exact w
    have wM : ¬ a0 ≤ σ.1 103 1 := by rw [hM.1]; exact w
    exact S_X_module (d := d + 10) h04 ⟨fun y => absurd y z, fun _ => ⟨fun y => absurd y wX, fun _ => S_M_module (d := d + 10) ⟨fun y => absurd y z, fun _ => ⟨fun y => absurd y wM, fun _ => ⟨rfl, hJ0⟩⟩⟩⟩⟩
end OPM
