/-! CODES: operands; the reference -/
section OPM
variable {t : Nat → UInt8} {b n e p q d : Nat} {σ : fkS}
theorem w_oM67 {m : Nat} (hm : m ≤ 60) : ∀ (k i p : Nat) (σ : fkS), i + k = m + 1 → RM t b n e p σ → σ.1 103 42 = 0 → Wq 263 (d + 3) 67 [some (.ref 103), none, none, some (.int (nI m)), some (.int (nI i)), none, none] [] σ (Qv fun σ' => YM t b n e fM (fun _ _ => True) (pFs t e k p) σ σ')
  | 0, i, p, σ, hi, h, hf => by
    refine S_M_operands_67 ⟨fun _ => ⟨Fr.rf, trivial, h, hf⟩, fun z => absurd (nI_lt (by omega) (by omega)) z⟩
  | k + 1, i, p, σ, hi, h, hf => by
    refine S_M_operands_67 ⟨fun z => absurd z (nI_nlt (by omega) (by omega)), fun _ => ⟨fun z => absurd hf z, fun _ => ?_⟩⟩
    refine qJ h hf (mU h hf) (fun x q r hR hv hR1 hf1 => ?_) fun w pl r σ1 hR hr0 hZ f1 => ?_
    · have ih := w_oM67 hm k (i + 1) q (okM σ q) (by omega) hR1 hf1
      rw [show nI (i + 1) = nI i + 1 from nI_succ i] at ih
      refine ih.mono fun y σ2 hx => ?_
      obtain ⟨rfl, f2, hu⟩ := Qv_s hx
      refine ⟨okM_fr.tr f2, ?_⟩
      rw [pFs, hR]
      simp only [bR]
      cases hF : pFs t e k q with
      | inl y =>
        obtain ⟨l2, q2⟩ := y
        rw [hF] at hu
        exact hu
      | inr y =>
        obtain ⟨w, pl⟩ := y
        rw [hF] at hu
        exact hu
    · have fin : (Qv fun σ' => YM t b n e fM (fun _ _ => True) (pFs t e (k + 1) p) σ σ') none σ1 := by
        refine ⟨f1, ?_⟩
        rw [pFs, hR]
        exact hZ
      exact S_M_operands_67 ⟨fun _ => fin, fun _ => ⟨fun _ => fin, fun z => absurd z hZ.nz⟩⟩
theorem m_operands {op : Nat} (h : RM t b n e q σ) (hf : σ.1 103 42 = 0) (ho : op < 256) : Cv (d + 4) 263 [.ref 103, .int (nI op), .int (nI p)] σ (fun σ' => YM t b n e fM (fun _ _ => True) (pOs t e p op q) σ σ') := by
  have hq2 : ∀ {b : Nat} {x : Int32}, b < 256 → x = nI b → (nI op = x ↔ op = b) := fun hb hx => op_nat ho hb hx
  have hal : alI (nI op) = alz op := rfl
  have hrf : rfzI (nI op) = rfz op := rfl
  have haN := al_nat ⟨op, ho⟩
  have hrN := rf_nat ⟨op, ho⟩
  simp only at haN hrN
  -- one number
  have u1 : ∀ (f : Nat → Nat → Rr Od), (∀ B q1, ∃ o, f B q1 = .inl (o, q1)) → pOs t e p op q = bR (nU t e q) f → Cj (d + 3) 246 [.ref 103] σ (fun _ σ3 => (Qv fun σ' => YM t b n e fM (fun _ _ => True) (pOs t e p op q) σ σ') none σ3) := by
    intro f hff hp
    refine qJ h hf (mU h hf) (fun x q1 r hR hv hR1 hf1 => ⟨okM_fr, ?_⟩) fun w pl r σ1 hR hr0 hZ f1 => ⟨f1, ?_⟩
    · obtain ⟨o, ho⟩ := hff x q1
      rw [hp, hR]
      simp only [bR]
      rw [ho]
      exact ⟨trivial, hR1, hf1⟩
    · rw [hp, hR]
      exact hZ
  refine S_M_operands (c_refusedM.mono fun x σ2 hx => ?_)
  obtain ⟨r, rfl, rfl, rfl⟩ := Qi_s hx
  show (_ → _) ∧ (_ → _)
  rw [hrf]
  refine ⟨fun z => ?_, fun z => ?_⟩
  · have hr : rfz op = false := b2i_0.mp z
    have w53 : op ≠ 12 → op ≠ 13 → op ≠ 16 → ¬ (32 ≤ op ∧ op ≤ 36) → Wq 263 (d + 4) 53 [some (.ref 103), some (.int (nI op)), some (.int (nI p)), none, none, none, none] [] σ2 (Qv fun σ' => YM t b n e fM (fun _ _ => True) (pOs t e p op q) σ2 σ') := by
      intro n12 n13 n16 n32
      have w139 : op ≠ 14 → op ≠ 17 → ¬ (40 ≤ op ∧ op ≤ 62) → Wq 263 (d + 4) 139 [some (.ref 103), some (.int (nI op)), some (.int (nI p)), none, none, none, none] [] σ2 (Qv fun σ' => YM t b n e fM (fun _ _ => True) (pOs t e p op q) σ2 σ') := by
        intro n14 n17 n40
        have zer : op = 63 ∨ op = 64 → Cv (d + 3) 241 [.ref 103, .int (0 : Int32)] σ2 (fun σ1 => (Qv fun σ' => YM t b n e fM (fun _ _ => True) (pOs t e p op q) σ2 σ') none σ1) := by
          intro hz
          have hna : alz op = false := by
            cases hh : alz op
            · rfl
            · have := haN hh
              omega
          have hp : pOs t e p op q = bR (rX 0 t e q) fun _ q1 => .inl ((0, 0, []), q1) := by
            unfold pOs pOn
            rw [hna, hr, if_neg (by decide), if_neg (by decide), if_neg n14, if_neg (by omega), if_neg (by omega), if_neg n17, if_pos hz]
          refine qV h hf (c_must (d := d) h hf) (fun _ q1 hR hR1 hf1 => ⟨okM_fr, ?_⟩) fun w pl σ1 hR hZ f1 => ⟨f1, ?_⟩
          · rw [hp, hR]
            exact ⟨trivial, hR1, hf1⟩
          · rw [hp, hR]
            exact hZ
        have sgn : ∀ W : Bool, (op = 65 ∨ op = 66) → decide (op = 65) = W → Cj (d + 3) 257 [.ref 103, .int (sWd W)] σ2 (fun _ σ1 => (Qv fun σ' => YM t b n e fM (fun _ _ => True) (pOs t e p op q) σ2 σ') none σ1) := by
          intro W hz hW
          have hna : alz op = false := by
            cases hh : alz op
            · rfl
            · have := haN hh
              omega
          have hp : pOs t e p op q = bR (rG W t e q) fun v q1 => .inl ((v, 0, []), q1) := by
            unfold pOs pOn
            rw [hna, hr, if_neg (by decide), if_neg (by decide), if_neg n14, if_neg (by omega), if_neg (by omega), if_neg n17, if_neg (by omega), if_pos hz, hW]
          refine qJ h hf (mG h hf) (fun v q1 r hR hv hR1 hf1 => ⟨okM_fr, ?_⟩) fun w pl r σ1 hR _ hZ f1 => ⟨f1, ?_⟩
          · rw [hp, hR]
            exact ⟨trivial, hR1, hf1⟩
          · rw [hp, hR]
            exact hZ
        refine S_M_operands_139 ⟨fun z => zer (Or.inl ((hq2 (by decide) rfl).mp z)), fun z63 => ⟨fun z64 => ⟨fun z65 => ⟨fun z66 => ?_, fun z => sgn false (Or.inr ((hq2 (by decide) rfl).mp z)) (decide_eq_false fun y => z65 ((hq2 (by decide) rfl).mpr y))⟩, fun z => sgn true (Or.inl ((hq2 (by decide) rfl).mp z)) (decide_eq_true ((hq2 (by decide) rfl).mp z))⟩, fun z => zer (Or.inr ((hq2 (by decide) rfl).mp z))⟩⟩
        have n63 : op ≠ 63 := fun y => z63 ((hq2 (by decide) rfl).mpr y)
        have n64 : op ≠ 64 := fun y => z64 ((hq2 (by decide) rfl).mpr y)
        have n65 : op ≠ 65 := fun y => z65 ((hq2 (by decide) rfl).mpr y)
        have n66 : op ≠ 66 := fun y => z66 ((hq2 (by decide) rfl).mpr y)
        refine c_plainM.mono fun x σ3 hx => ?_
        obtain ⟨r, rfl, rfl, rfl⟩ := Qi_s hx
        show (_ → _) ∧ (_ → _)
        rw [hal]
        refine ⟨fun za => ⟨Fr.rf, ?_⟩, fun za => ?_⟩
        · have ha : alz op = true := by
            cases hh : alz op
            · exact absurd (b2i_0.mpr hh) za
            · rfl
          have hp : pOs t e p op q = .inl ((0, 0, []), q) := by unfold pOs; rw [ha, if_pos rfl]
          rw [hp]
          exact ⟨trivial, h, hf⟩
        · have ha : alz op = false := b2i_0.mp za
          have hp : pOs t e p op q = .inr (-1, nI p) := by
            unfold pOs pOn
            rw [ha, hr, if_neg (by decide), if_neg (by decide), if_neg n14, if_neg (by omega), if_neg (by omega), if_neg n17, if_neg (by omega), if_neg (by omega), if_neg n40]
          refine qFails h hf (by decide) fun σ4 hZ f4 => ⟨f4, ?_⟩
          rw [hp]
          exact hZ
      refine S_M_operands_53 ⟨fun z14 => ⟨fun z17 => ?_, fun z17 => ?_⟩, fun z14 => ?_⟩
      · have n14 : op ≠ 14 := fun y => z14 ((hq2 (by decide) rfl).mpr y)
        have n17 : op ≠ 17 := fun y => z17 ((hq2 (by decide) rfl).mpr y)
        refine ⟨fun z => w139 n14 n17 ?_, fun z => ⟨fun z2 => w139 n14 n17 ?_, fun z2 => ?_⟩⟩
        · have := (nI_ltI (b := 40) (by omega) (by decide)).mp z
          omega
        · have := (nI_ltI (a := 62) (by decide) (by omega)).mp z2
          omega
        · have r40 : 40 ≤ op := Nat.not_lt.mp fun y => z ((nI_ltI (b := 40) (by omega) (by decide)).mpr y)
          have r62 : op ≤ 62 := Nat.not_lt.mp fun y => z2 ((nI_ltI (a := 62) (by decide) (by omega)).mpr y)
          have hna : alz op = false := by
            cases hh : alz op
            · rfl
            · have := haN hh
              omega
          have hp : pOs t e p op q = pO40 t e q := by
            unfold pOs pOn
            rw [hna, hr, if_neg (by decide), if_neg (by decide), if_neg n14, if_neg (by omega), if_neg (by omega), if_neg n17, if_neg (by omega), if_neg (by omega), if_pos ⟨r40, r62⟩]
          rw [hp]
          unfold pO40
          refine qJ h hf (mU h hf) (fun al q1 r hR hv hR1 hf1 => ?_) fun w pl r σ1 hR hr0 hZ f1 => ?_
          · rw [hR]
            simp only [bR]
            refine qJ hR1 hf1 (mU hR1 hf1) (fun f q2 r hR2 hv hR3 hf3 => ?_) fun w pl r σ1 hR2 hr0 hZ f1 => ?_
            · rw [hR2]
              exact ⟨okM_fr.tr okM_fr, trivial, hR3, hf3⟩
            · rw [hR2]
              exact ⟨okM_fr.tr f1, hZ⟩
          · rw [hR]
            exact y0J (c_u32_z (d := d + 2) hZ.nz) ⟨f1, hZ⟩
      · have e17 : op = 17 := (hq2 (by decide) rfl).mp z17
        have hna : alz op = false := by
          cases hh : alz op
          · rfl
          · have := haN hh
            omega
        have hp : pOs t e p op q = pO17 t e q := by
          unfold pOs pOn
          rw [hna, hr, if_neg (by decide), if_neg (by decide), if_neg (by omega), if_neg (by omega), if_neg (by omega), if_pos e17]
        rw [hp]
        unfold pO17
        refine qJ h hf (mU h hf) (fun B q1 r hR hv hR1 hf1 => ?_) fun w pl r σ1 hR hr0 hZ f1 => ?_
        · rw [hR]
          simp only [bR]
          refine qV hR1 hf1 (c_must (d := d) hR1 hf1) (fun _ q2 hR2 hR3 hf3 => ?_) fun w pl σ1 hR2 hZ f1 => ?_
          · rw [hR2]
            exact ⟨okM_fr.tr okM_fr, trivial, hR3, hf3⟩
          · rw [hR2]
            exact ⟨okM_fr.tr f1, hZ⟩
        · rw [hR]
          exact y0V (c_mustz (d := d) hZ.nz) ⟨f1, hZ⟩
      · have e14 : op = 14 := (hq2 (by decide) rfl).mp z14
        have hna : alz op = false := by
          cases hh : alz op
          · rfl
          · have := haN hh
            omega
        have hp : pOs t e p op q = pO14 t e q := by
          unfold pOs
          rw [hna, hr, if_neg (by decide), if_neg (by decide), if_pos e14]
        rw [hp]
        unfold pO14
        refine qI h hf (mV h hf) (fun m q1 r hR hv hR1 hf1 => ?_) fun w pl r σ1 hR hr0 hZ f1 => ?_
        · subst hv
          obtain ⟨-, hm, -, -⟩ := nV_l hR
          rw [hR]
          simp only [bR]
          refine (w_oM67 (d := d + 1) hm (m + 1) 0 q1 (okM σ2 q1) (Nat.zero_add _) hR1 hf1).mono fun y σ3 hx => ?_
          obtain ⟨rfl, f3, hu⟩ := Qv_s hx
          refine ⟨okM_fr.tr f3, ?_⟩
          cases hF : pFs t e (m + 1) q1 with
          | inl y =>
            obtain ⟨l2, q2⟩ := y
            rw [hF] at hu
            exact hu
          | inr y =>
            obtain ⟨w, pl⟩ := y
            rw [hF] at hu
            exact hu
        · subst hr0
          rw [hR]
          have fin : (Qv fun σ' => YM t b n e fM (fun _ _ => True) (.inr (w, pl) : Rr Od) σ2 σ') none σ1 := ⟨f1, hZ⟩
          exact S_M_operands_67 ⟨fun _ => fin, fun _ => ⟨fun _ => fin, fun z => absurd z hZ.nz⟩⟩
    have br : (op = 12 ∨ op = 13) → pOs t e p op q = bR (nU t e q) fun B q1 => .inl ((0, 0, [B]), q1) := by
      intro hz
      have hna : alz op = false := by
        cases hh : alz op
        · rfl
        · have := haN hh
          omega
      unfold pOs pOn
      rw [hna, hr, if_neg (by decide), if_neg (by decide), if_neg (by omega), if_pos hz]
    have num : (op = 16 ∨ (32 ≤ op ∧ op ≤ 36)) → pOs t e p op q = bR (nU t e q) fun B q1 => .inl (((nI B).toInt64, 0, []), q1) := by
      intro hz
      have hna : alz op = false := by
        cases hh : alz op
        · rfl
        · have := haN hh
          omega
      unfold pOs pOn
      rw [hna, hr, if_neg (by decide), if_neg (by decide), if_neg (by omega), if_neg (by omega), if_pos hz]
    refine ⟨fun z => u1 _ (fun B q1 => ⟨_, rfl⟩) (br (Or.inl ((hq2 (by decide) rfl).mp z))), fun z12 => ⟨fun z => u1 _ (fun B q1 => ⟨_, rfl⟩) (br (Or.inr ((hq2 (by decide) rfl).mp z))), fun z13 => ⟨fun z => u1 _ (fun B q1 => ⟨_, rfl⟩) (num (Or.inl ((hq2 (by decide) rfl).mp z))), fun z16 => ?_⟩⟩⟩
    have n12 : op ≠ 12 := fun y => z12 ((hq2 (by decide) rfl).mpr y)
    have n13 : op ≠ 13 := fun y => z13 ((hq2 (by decide) rfl).mpr y)
    have n16 : op ≠ 16 := fun y => z16 ((hq2 (by decide) rfl).mpr y)
    refine ⟨fun z => w53 n12 n13 n16 ?_, fun z => ⟨fun z2 => w53 n12 n13 n16 ?_, fun z2 => u1 _ (fun B q1 => ⟨_, rfl⟩) (num (Or.inr ⟨?_, ?_⟩))⟩⟩
    · have := (nI_ltI (b := 32) (by omega) (by decide)).mp z
      omega
    · have := (nI_ltI (a := 36) (by decide) (by omega)).mp z2
      omega
    · exact Nat.not_lt.mp fun y => z ((nI_ltI (b := 32) (by omega) (by decide)).mpr y)
    · exact Nat.not_lt.mp fun y => z2 ((nI_ltI (a := 36) (by decide) (by omega)).mpr y)
  · have hr : rfz op = true := by
      cases hh : rfz op
      · exact absurd (b2i_0.mpr hh) z
      · rfl
    have hna : alz op = false := by
      cases hh : alz op
      · rfl
      · have := (haN hh).1
        rw [hr] at this
        cases this
    have hp : pOs t e p op q = .inr (-2, nI p) := by unfold pOs; rw [hna, hr, if_neg (by decide), if_pos rfl]
    refine qFails h hf (by decide) fun σ4 hZ f4 => ⟨f4, ?_⟩
    rw [hp]
    exact hZ
end OPM
