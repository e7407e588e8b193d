/-! CODES: a block; an INSTRUCTION; the class -/
section BLKX
variable {t : Nat → UInt8} {n e d p q op : Nat} {C : List In} {σ : fkS}
theorem b_eq64 (b : UInt8) : b.toInt8.toInt32 = 64 ↔ b.toNat = 64 := by
  have key : ∀ x : BitVec 8, x.signExtend 32 = 64#32 ↔ x.toNat = 64 := by decide +kernel
  rw [← Int32.toBitVec_inj]
  exact key b.toBitVec
theorem mkI_of (p op : Nat) (o : Od) : iOp (mkI p op o) = op := rfl
theorem AddR.blk {σ1 : fkS} {bt : Nat} (hD : DC C σ) (hop : 2 ≤ op ∧ op ≤ 4) (hA : AddR C σ σ1 op (lN bt) 0 []) (h20 : (sk C C.length).length < 20) {σ2 : fkS} (h2 : σ2 = sI (sI σ1 49 (sk C C.length).length (nI C.length)) 48 1 (nI ((sk C C.length).length + 1))) : DC (C ++ [mkI p op (lN bt, 0, [])]) σ2 := by
  subst h2
  obtain ⟨a0, a1, a2, a3, a4, a5, a6, a7, a8, a9⟩ := hA
  refine hD.snoc (i := mkI p op (lN bt, 0, [])) ?_ ?_ (fun k => a3 k) (fun k => ?_) (fun k hk _ => ?_) (fun hn => absurd (show 2 ≤ op ∧ op ≤ 5 by omega) hn) (fun o x r ho => absurd ho (by rw [mkI_of]; omega)) (fun j hj => a6 j hj) (fun j B hB => a7 j B hB) (fun k j _ ho => absurd ho (by rw [mkI_of]; omega)) ?_
  · rw [sI_o (by decide), sI_o (by decide)]
    exact a1
  · rw [sI_o (by decide), sI_o (by decide)]
    exact a2
  · show σ1.2.1 42 k = _
    rw [a4]
    unfold iFirst
    have hn : ¬ (iOp (mkI p op (lN bt, 0, [])) = 12 ∨ iOp (mkI p op (lN bt, 0, [])) = 13 ∨ iOp (mkI p op (lN bt, 0, [])) = 14) := by
      rw [mkI_of]
      omega
    rw [if_neg hn]
    rfl
  · rw [sI_o (by decide), sI_o (by decide), a5, if_neg (by omega)]
  · have hs : skS (sk C C.length) C.length (iOp (mkI p op (lN bt, 0, []))) = (C.length, C.length) :: sk C C.length := by
      unfold skS
      rw [mkI_of, if_neg (by omega), if_neg (by omega), if_pos hop]
    rw [hs]
    obtain ⟨b1, b2⟩ := hD.2.2.2.2.2
    refine ⟨sI_ss, fun k a hk => ?_⟩
    rw [sI_o (by decide), sI3]
    rw [List.reverse_cons] at hk
    rcases get_snoc hk with ⟨hk, hlt⟩ | ⟨rfl, rfl⟩
    · have hk2 : k < (sk C C.length).length := by rw [List.length_reverse] at hlt; exact hlt
      rw [if_neg (by omega), a9]
      exact b2 k a hk
    · rw [if_pos (by simp)]
theorem c_block (h : RX t n e q σ) (hf : σ.1 46 3 = 0) (hD : DC C σ) (hop : 2 ≤ op ∧ op ≤ 4) (hC : C.length + 8 ≤ p) (hp : p < q) : Dv (d + 3) 35 [.ref 48, .ref 46, .ref 36, .int (nI op), .int (nI p)] σ (fun σ' => YR t n e sDC (fun i σ' => DC (C ++ [i]) σ') (pI2 t e C p op q) σ σ') := by
  have h7 := h.2.2.2.2.2.2
  have hO : rOpen (sk C C.length) σ := hD.2.2.2.2.2
  have hp2 : pI2 t e C p op q = if 20 ≤ (sk C C.length).length then .inr (-2, nI p) else bR (pBt t e q) fun bt q2 => .inl (mkI p op (lN bt, 0, []), q2) := by
    unfold pI2
    rw [if_neg (by omega), if_neg (by omega), if_pos hop]
  have hsl : (sk C C.length).length < 2 ^ 31 := by
    have key : ∀ (m : Nat) (s : List (Nat × Nat)), skO m s → s.length ≤ m := by
      intro m s
      induction s generalizing m with
      | nil => intro _; exact Nat.zero_le _
      | cons a r ih =>
        obtain ⟨o, x⟩ := a
        intro hh
        have := ih o hh.2.2
        have h1 := hh.1
        have h2 := hh.2.1
        simp only [List.length_cons]
        omega
    have := key _ _ (sk_O C C.length)
    omega
  refine S_CodeReader_block h.1 ⟨fun z => ?_, fun z => ?_⟩
  · rw [hO.1] at z
    have h20 : (sk C C.length).length < 20 := (nI_ltI (b := 20) hsl (by decide)).mp z
    rw [if_neg (by omega)] at hp2
    refine kAdd (op := op) h hf hD (by omega) rfl fun σ1 e1 hR1 hf1 hA => ?_
    simp only [sW_eq e1]
    have h48 : σ1.1 48 1 = nI (sk C C.length).length := hA.2.2.2.2.2.2.2.2.1.trans hO.1
    have goVT : pBt t e q = nT t e q → Wq 35 (d + 3) 63 [some (.ref 48), some (.ref 46), some (.ref 36), none, none, some (.int (nI C.length))] [] σ1 (Qv fun σ' => σ'.2.2 = σ.2.2 ∧ YR t n e sDC (fun i σ' => DC (C ++ [i]) σ') (pI2 t e C p op q) σ σ') := by
      intro hb
      rw [hb] at hp2
      refine S_CodeReader_block_63 ?_
      rw [nI_clamp (by omega)]
      refine kI hR1 hf1 (cT hR1 hf1) (fun bt q2 r hR hv e2 hR2 hf2 => ?_) fun w pl r σ2 hR _ e2 hZ f2 => ?_
      · subst hv
        have hbt := (nT_l hR).2.1
        simp only [sW_okX]
        have h48b : (okX σ1 q2).1 48 1 = nI (sk C C.length).length := h48
        rw [h48b, nI_clamp (by omega), show nI (sk C C.length).length + (1 : Int32) = nI ((sk C C.length).length + 1) from nI_1 _, nI_l (by rcases hbt with z | z <;> omega)]
        have hA3 := (hA.fr (okX_fr (q := q2))).setF (lN bt)
        refine ⟨vp_in_nI (by omega) (by decide), vp_in_nI h20 (by decide), e1, (hA3.1.sI rfl).sI rfl, ?_⟩
        rw [hp2, hR]
        exact ⟨AddR.blk hD hop hA3 h20 rfl, ((hR2.sL).sI rfl).sI rfl, f0_sI (f0_sI hf2 rfl) rfl⟩
      · simp only [sW_eq e2]
        have h48b : σ2.1 48 1 = nI (sk C C.length).length := (f2 48 1 rfl).1.trans h48
        rw [h48b, nI_clamp (by omega)]
        refine ⟨vp_in_nI (by omega) (by decide), vp_in_nI h20 (by decide), e2.trans e1, (((hA.fr f2).1.sL rfl).sI rfl).sI rfl, ?_⟩
        rw [hp2, hR]
        exact ((hZ.sL).sI rfl).sI rfl
    rw [hR1.2.2.2.2.1, hR1.2.2.2.2.2.1]
    refine ⟨fun y => goVT ?_, fun y => ⟨by decide, vp_in_nI ?_ (by decide), ?_⟩⟩
    · unfold pBt
      rw [if_neg]
      intro w
      exact nI_ge w.1 (by have := h.2.2.1; have := h.2.2.2.1; omega) y
    · have hz : q < e := Nat.not_le.mp fun w => y (nI_le w (by omega))
      have := h.2.2.1
      have := h.2.2.2.1
      omega
    · have hz : q < e := Nat.not_le.mp fun w => y (nI_le w (by omega))
      have h3 := h.2.2.1
      have h4 := h.2.2.2.1
      have hb : σ1.1 25 (nI q).toNatClampNeg = (t q).toInt8.toInt32 := by
        rw [nI_clamp (by omega)]
        exact hR1.2.1 q (by omega)
      rw [hb]
      refine ⟨fun w => goVT ?_, fun w => ?_⟩
      · unfold pBt
        rw [if_neg]
        intro w2
        exact w ((b_eq64 _).mpr w2.2)
      · have hpb : pBt t e q = .inl (0, q + 1) := by
          unfold pBt
          rw [if_pos ⟨hz, (b_eq64 _).mp w⟩]
        rw [hpb] at hp2
        rw [h48, nI_clamp (by omega), show nI q + (1 : Int32) = nI (q + 1) from nI_1 _, show nI (sk C C.length).length + (1 : Int32) = nI ((sk C C.length).length + 1) from nI_1 _]
        have hA3 := hA.fr (okX_fr (q := q + 1))
        refine ⟨vp_in_nI h20 (by decide), e1, (hA3.1.sI rfl).sI rfl, ?_⟩
        rw [hp2]
        have hR2 : RX t n e (q + 1) (okX σ1 (q + 1)) := hR1.at (by omega)
        exact ⟨AddR.blk (bt := 0) hD hop hA3 h20 rfl, (hR2.sI rfl).sI rfl, f0_sI (f0_sI (show (okX σ1 (q + 1)).1 46 3 = 0 from hf1) rfl) rfl⟩
  · rw [hO.1] at z
    have h20 : ¬ (sk C C.length).length < 20 := fun y => z (nI_lt (b := 20) y (by decide))
    rw [if_pos (by omega)] at hp2
    refine kFail h hf (by decide) fun σ3 e3 hZ f3 => ?_
    simp only [sW_eq e3]
    refine ⟨e3, f3.f46C, ?_⟩
    rw [hp2]
    exact hZ
theorem c_instruction (h : RX t n e p σ) (hf : σ.1 46 3 = 0) (hD : DC C σ) (hO : okO C) (hC : C.length + 8 ≤ p) (hL : (lbs C).length + 8 ≤ p) (h20 : (sk C C.length).length ≤ 20) : Di (d + 5) 31 [.ref 48, .ref 46, .ref 36] σ (fun r σ' => YI t n e sDC (fun i r σ' => DC (C ++ [i]) σ' ∧ r = b2i (decide (iOp i = 11) && (sk C C.length).isEmpty)) (pI t e C p) σ r σ') := by
  have hp1 : σ.1 46 1 = nI p := h.2.2.2.2.2.1
  refine S_CodeReader_instruction ?_
  rw [hp1]
  refine kI h hf (cN h hf) (fun op q r hR hv e1 hR1 hf1 => ?_) fun w pl r σ1 hR hr0 e1 hZ f1 => ?_
  · subst hv
    obtain ⟨-, hopb, hq, hpe⟩ := nN_l hR
    have ho : op < 256 := by have := (t p).toNat_lt; omega
    have hq' : p < q := by omega
    have hpI : pI t e C p = pI2 t e C p op q := by unfold pI; rw [hR]; rfl
    have hq2 : ∀ {b : Nat} {x : Int32}, b < 256 → x = nI b → (nI op = x ↔ op = b) := fun hb hx => op_nat ho hb hx
    simp only [sW_okX]
    refine kFine hR1 hf1 ⟨fun _ => ?_, fun z => absurd z (by decide)⟩
    simp only [sW_okX]
    have hD1 : DC C (okX σ q) := hD
    -- an end that a method of its own makes
    have viaV : iOp (mkI p op (0, 0, [])) ≠ 11 → ∀ σ1 σ2 : fkS, σ1.2.2 = σ.2.2 → Fr sDC σ σ1 → σ2.2.2 = σ1.2.2 → YR t n e sDC (fun i σ' => DC (C ++ [i]) σ') (pI2 t e C p op q) σ1 σ2 → (∀ i q2, pI2 t e C p op q = .inl (i, q2) → iOp i = op) → σ2.2.2 = σ.2.2 ∧ YI t n e sDC (fun i r σ' => DC (C ++ [i]) σ' ∧ r = b2i (decide (iOp i = 11) && (sk C C.length).isEmpty)) (pI t e C p) σ 0 σ2 := by
      intro h11 σ1 σ2 e1 f1 e2 hy hi
      obtain ⟨f2, hy⟩ := hy
      refine ⟨e2.trans e1, f1.tr f2, ?_⟩
      rw [hpI]
      cases hP : pI2 t e C p op q with
      | inl y =>
        obtain ⟨i, q2⟩ := y
        rw [hP] at hy
        obtain ⟨u1, u2, u3⟩ := hy
        refine ⟨⟨u1, ?_⟩, u2, u3⟩
        have hio := hi i q2 hP
        have hne : ¬ iOp i = 11 := by rw [hio]; exact h11
        rw [decide_eq_false hne]
        rfl
      | inr y =>
        obtain ⟨w, pl⟩ := y
        rw [hP] at hy
        exact hy
    have w73 : ¬ op = 11 → ¬ op = 5 → ¬ (2 ≤ op ∧ op ≤ 4) → Wq 31 (d + 5) 73 [some (.ref 48), some (.ref 46), some (.ref 36), some (.int (nI p)), some (.int (nI op))] [] (okX σ q) (Qi fun r σ' => σ'.2.2 = σ.2.2 ∧ YI t n e sDC (fun i r σ' => DC (C ++ [i]) σ' ∧ r = b2i (decide (iOp i = 11) && (sk C C.length).isEmpty)) (pI t e C p) σ r σ') := by
      intro n11 n5 n24
      have hp2 : pI2 t e C p op q = bR (pOs t e p op q) fun o q2 => .inl (mkI p op o, q2) := by
        unfold pI2
        rw [if_neg n11, if_neg n5, if_neg n24]
      have hpi : ∀ i q2, pI2 t e C p op q = .inl (i, q2) → iOp i = op := by
        intro i q2 hh
        rw [hp2] at hh
        cases hP : pOs t e p op q with
        | inl y =>
          obtain ⟨o, q3⟩ := y
          rw [hP] at hh
          cases hh
          rfl
        | inr y => rw [hP] at hh; cases hh
      have hal : alI (nI op) = alz op := rfl
      have hrf : rfzI (nI op) = rfz op := rfl
      have toR : ∀ σ1 σ2, YR t n e sDC (rOd C (okX σ q) p op) (pOs t e p op q) σ1 σ2 → YR t n e sDC (fun i σ' => DC (C ++ [i]) σ') (pI2 t e C p op q) σ1 σ2 := by
        intro σ1 σ2 hy
        obtain ⟨f2, hy⟩ := hy
        refine ⟨f2, ?_⟩
        rw [hp2]
        cases hP : pOs t e p op q with
        | inl y =>
          obtain ⟨o, q3⟩ := y
          rw [hP] at hy
          exact hy
        | inr y =>
          rw [hP] at hy
          exact hy
      refine S_CodeReader_instruction_73 (c_alone.mono fun x σ2 hx => ?_)
      obtain ⟨r, rfl, e2, rfl, rfl⟩ := Qi_s hx
      refine ⟨e2, ?_⟩
      simp only [sW_id]
      rw [hal]
      refine ⟨fun za => ?_, fun za => ?_⟩
      · have ha : alz op = false := b2i_0.mp za
        refine c_refused.mono fun x σ2 hx => ?_
        obtain ⟨r, rfl, e2, rfl, rfl⟩ := Qi_s hx
        refine ⟨e2, ?_⟩
        simp only [sW_id]
        rw [hrf]
        refine ⟨fun zr => ?_, fun zr => ?_⟩
        · have hr : rfz op = false := b2i_0.mp zr
          refine ⟨fun z14 => ?_, fun z14 => ?_⟩
          · have n14 : op ≠ 14 := fun y => z14 ((hq2 (by decide) rfl).mpr y)
            refine kY (c_withOperands (d := d + 1) hR1 hf1 hD1 hq' hC hL ho ha hr n14 ⟨by omega, n11⟩) (fun o q3 σ3 hP e3 f3 u1 u2 u3 => ?_) fun w pl σ3 hP e3 f3 hZ => ?_
            · simp only [sW_eq (show σ3.2.2 = (okX σ q).2.2 from e3)]
              refine viaV n11 (okX σ q) σ3 rfl okX_fr.f46C e3 (toR _ _ ⟨f3, ?_⟩) hpi
              have : pOs t e p op q = pOn t e p op q := by unfold pOs; rw [ha, hr, if_neg (by decide), if_neg (by decide), if_neg n14]
              rw [this, hP]
              exact ⟨u1, u2, u3⟩
            · simp only [sW_eq (show σ3.2.2 = (okX σ q).2.2 from e3)]
              refine viaV n11 (okX σ q) σ3 rfl okX_fr.f46C e3 (toR _ _ ⟨f3, ?_⟩) hpi
              have : pOs t e p op q = pOn t e p op q := by unfold pOs; rw [ha, hr, if_neg (by decide), if_neg (by decide), if_neg n14]
              rw [this, hP]
              exact hZ
          · have e14 : op = 14 := (hq2 (by decide) rfl).mp z14
            subst e14
            have hpo : pOs t e p 14 q = pO14 t e q := by unfold pOs; rw [ha, hr, if_neg (by decide), if_neg (by decide), if_pos rfl]
            refine kY (c_branchTable (d := d) hR1 hf1 hD1 hq' hC hL) (fun o q3 σ3 hP e3 f3 u1 u2 u3 => ?_) fun w pl σ3 hP e3 f3 hZ => ?_
            · simp only [sW_eq (show σ3.2.2 = (okX σ q).2.2 from e3)]
              refine viaV n11 (okX σ q) σ3 rfl okX_fr.f46C e3 (toR _ _ ⟨f3, ?_⟩) hpi
              rw [hpo, hP]
              exact ⟨u1, u2, u3⟩
            · simp only [sW_eq (show σ3.2.2 = (okX σ q).2.2 from e3)]
              refine viaV n11 (okX σ q) σ3 rfl okX_fr.f46C e3 (toR _ _ ⟨f3, ?_⟩) hpi
              rw [hpo, hP]
              exact hZ
        · have hr : rfz op = true := by
            cases hh : rfz op
            · exact absurd (b2i_0.mpr hh) zr
            · rfl
          have hpo : pOs t e p op q = .inr (-2, nI p) := by unfold pOs; rw [ha, hr, if_neg (by decide), if_pos rfl]
          refine kFail hR1 hf1 (by decide) fun σ3 e3 hZ f3 => ?_
          simp only [sW_eq (show σ3.2.2 = (okX σ q).2.2 from e3)]
          refine viaV n11 (okX σ q) σ3 rfl okX_fr.f46C e3 (toR _ _ ⟨f3.f46C, ?_⟩) hpi
          rw [hpo]
          exact hZ
      · have ha : alz op = true := by
          cases hh : alz op
          · exact absurd (b2i_0.mpr hh) za
          · rfl
        have hpo : pOs t e p op q = .inl ((0, 0, []), q) := by unfold pOs; rw [ha, if_pos rfl]
        have h12 := al_nat ⟨op, ho⟩ ha
        refine kAdd (op := op) hR1 hf1 hD1 (by have := hR1.2.2.2.2.2.2; omega) rfl fun σ3 e3 hR3 hf3 hA => ?_
        simp only [sW_eq (show σ3.2.2 = (okX σ q).2.2 from e3)]
        refine viaV n11 (okX σ q) σ3 rfl okX_fr.f46C e3 (toR _ _ ⟨hA.1, ?_⟩) hpi
        rw [hpo]
        refine ⟨AddR.dc (i := mkI p op (0, 0, [])) hD1 hA ⟨by omega, n11⟩ rfl ?_ rfl rfl, hR3, hf3⟩
        unfold iFirst
        rw [if_neg]
        · rfl
        · rw [mkI_of]
          have h14 := h12.2.1
          have h122 := h12.2.2.1
          have h13 := h12.2.2.2.1
          simp only at h14 h122 h13
          omega
    refine ⟨fun z11 => ⟨fun z5 => ?_, fun z5 => ?_⟩, fun z11 => ?_⟩
    · have n11 : ¬ op = 11 := fun y => z11 ((hq2 (by decide) rfl).mpr y)
      have n5 : ¬ op = 5 := fun y => z5 ((hq2 (by decide) rfl).mpr y)
      refine ⟨fun z => w73 n11 n5 ?_, fun z => ⟨fun z2 => w73 n11 n5 ?_, fun z2 => ?_⟩⟩
      · have := (nI_ltI (b := 2) (by omega) (by decide)).mp z
        omega
      · have := (nI_ltI (a := 4) (by decide) (by omega)).mp z2
        omega
      · have r2 : 2 ≤ op := Nat.not_lt.mp fun y => z ((nI_ltI (b := 2) (by omega) (by decide)).mpr y)
        have r4 : op ≤ 4 := Nat.not_lt.mp fun y => z2 ((nI_ltI (a := 4) (by decide) (by omega)).mpr y)
        have hpi : ∀ i q2, pI2 t e C p op q = .inl (i, q2) → iOp i = op := by
          intro i q2 hh
          unfold pI2 at hh
          rw [if_neg n11, if_neg n5, if_pos ⟨r2, r4⟩] at hh
          split at hh
          · cases hh
          · cases hP : pBt t e q with
            | inl y =>
              obtain ⟨o, q3⟩ := y
              rw [hP] at hh
              cases hh
              rfl
            | inr y => rw [hP] at hh; cases hh
        refine (c_block (d := d + 1) hR1 hf1 hD1 ⟨r2, r4⟩ hC hq').mono fun x σ3 hx => ?_
        obtain ⟨rfl, e3, hy⟩ := Qv_s hx
        refine ⟨e3, ?_⟩
        simp only [sW_eq (show σ3.2.2 = σ.2.2 from e3)]
        exact viaV n11 (okX σ q) σ3 rfl okX_fr.f46C e3 hy hpi
    · have e5 : op = 5 := (hq2 (by decide) rfl).mp z5
      subst e5
      have hpi : ∀ i q2, pI2 t e C p 5 q = .inl (i, q2) → iOp i = 5 := by
        intro i q2 hh
        unfold pI2 at hh
        rw [if_neg (by decide), if_pos rfl] at hh
        split at hh
        · split at hh
          · cases hh
            rfl
          · cases hh
        · cases hh
      refine (c_otherPart (d := d + 3) hR1 hf1 hD1 hO hC hq' h20).mono fun x σ3 hx => ?_
      obtain ⟨rfl, e3, hy⟩ := Qv_s hx
      refine ⟨e3, ?_⟩
      simp only [sW_eq (show σ3.2.2 = σ.2.2 from e3)]
      exact viaV (show (5 : Nat) ≠ 11 by decide) (okX σ q) σ3 rfl okX_fr.f46C e3 hy hpi
    · have e11 : op = 11 := (hq2 (by decide) rfl).mp z11
      subst e11
      refine (c_close (d := d + 3) hR1 hf1 hD1 hO hC hq' h20).mono fun x σ3 hx => ?_
      obtain ⟨r, rfl, e3, rfl, f3, u1, u2, u3⟩ := Qi_s hx
      refine ⟨e3, ?_⟩
      simp only [sW_eq (show σ3.2.2 = σ.2.2 from e3)]
      have fin : σ3.2.2 = σ.2.2 ∧ YI t n e sDC (fun i r σ' => DC (C ++ [i]) σ' ∧ r = b2i (decide (iOp i = 11) && (sk C C.length).isEmpty)) (pI t e C p) σ (b2i (sk C C.length).isEmpty) σ3 := by
        refine ⟨e3, okX_fr.f46C.tr f3, ?_⟩
        rw [hpI]
        unfold pI2
        rw [if_pos rfl]
        exact ⟨⟨u1, rfl⟩, u2, u3⟩
      unfold fk_bz
      generalize (sk C C.length).isEmpty = E at fin ⊢
      cases E <;> exact fin
  · subst hr0
    simp only [sW_eq e1]
    refine zFine hZ ⟨fun z => absurd rfl z, fun _ => ?_⟩
    simp only [sW_eq e1]
    refine ⟨e1, f1.f46C, ?_⟩
    have hpI : pI t e C p = .inr (w, pl) := by unfold pI; rw [hR]; rfl
    rw [hpI]
    exact hZ
end BLKX
