/-! CODES: operands, blocks, the end of a part; the class -/
section OPX
variable {t : Nat → UInt8} {n e d p q op : Nat} {C : List In} {σ : fkS}
theorem op_nat {v b : Nat} (hv : v < 256) (hb : b < 256) {x : Int32} (hx : x = nI b) : nI v = x ↔ v = b := eN (by omega) (by omega) hx
theorem c_withOperands (h : RX t n e q σ) (hf : σ.1 46 3 = 0) (hD : DC C σ) (hp : p < q) (hC : C.length + 8 ≤ p) (hL : (lbs C).length + 8 ≤ p) (ho : op < 256) (h1 : alz op = false) (h2 : rfz op = false) (h14 : op ≠ 14) (hn : ¬ (2 ≤ op ∧ op ≤ 5) ∧ op ≠ 11) : Dv (d + 3) 40 [.ref 48, .ref 46, .ref 36, .int (nI op), .int (nI p)] σ (fun σ' => YR t n e sDC (rOd C σ p op) (pOn t e p op q) σ σ') := by
  have h7 := h.2.2.2.2.2.2
  have hhn : hnI (nI op) = true ↔ (op = 16 ∨ (32 ≤ op ∧ op ≤ 36)) := hn_nat ⟨op, ho⟩
  refine S_CodeReader_withOperands (kAdd (op := op) h hf hD (by omega) rfl fun σ1 e1 hR1 hf1 hA => ?_)
  simp only [sW_eq e1]
  have h9 : (σ1.1 36 9).toInt64 = lN (lbs C).length := by
    rw [hA.2.2.1]
    exact nI_l (by show (lbs C).length + 0 < _; omega)
  have hin : vp_in (nI C.length) 4000 := vp_in_nI (by omega) (by decide)
  rw [h9, nI_clamp (by omega)]
  have hq : ∀ {b : Nat} {x : Int32}, b < 256 → x = nI b → (nI op = x ↔ op = b) := fun hb hx => op_nat ho hb hx
  -- an end behind a fault
  have fz : ∀ (σ3 : fkS) (w pl : Int32), pOn t e p op q = .inr (w, pl) → σ3.2.2 = σ.2.2 → Fr sDC σ σ3 → ZX t n e w pl σ3 → σ3.2.2 = σ.2.2 ∧ YR t n e sDC (rOd C σ p op) (pOn t e p op q) σ σ3 := by
    intro σ3 w pl hr e3 f3 hZ
    refine ⟨e3, f3, ?_⟩
    rw [hr]
    exact hZ
  -- a good end
  have fo : ∀ (σ3 : fkS) (q3 : Nat) (o : Od) (fi : Int64), pOn t e p op q = .inl (o, q3) → σ3.2.2 = σ.2.2 → AddR C σ σ3 op fi (nI o.2.1) o.2.2 → fi = iFirst C C.length (mkI p op o) → RX t n e q3 σ3 → σ3.1 46 3 = 0 → σ3.2.2 = σ.2.2 ∧ YR t n e sDC (rOd C σ p op) (pOn t e p op q) σ σ3 := by
    intro σ3 q3 o fi hr e3 hA3 hfi hR3 hf3
    refine ⟨e3, hA3.1, ?_⟩
    rw [hr]
    exact ⟨AddR.dc (i := mkI p op o) hD hA3 hn rfl hfi rfl rfl, hR3, hf3⟩
  have nbr : op ≠ 12 → op ≠ 13 → ∀ (v : Int64) (k : Nat) (l : List Nat), v = iFirst C C.length (mkI p op (v, k, l)) := by
    intro a b v k l
    unfold iFirst
    rw [if_neg]
    · rfl
    · rintro (c | c | c)
      · exact a c
      · exact b c
      · exact h14 c
  have br : (op = 12 ∨ op = 13) → Dj (d + 2) 26 [.ref 46] (sL σ1 42 C.length (lN (lbs C).length)) (fun x4 σ3 => (Dv (d + 2) 39 [.ref 36, .long x4] (sW σ3 σ) (fun σ5 => (sW σ5 σ).2.2 = σ.2.2 ∧ YR t n e sDC (rOd C σ p op) (pOn t e p op q) σ (sW σ5 σ)))) := by
    intro ho2
    have hA2 := hA.setF (lN (lbs C).length)
    refine kJ (hR1.sL (c := 42) (j := C.length) (v := lN (lbs C).length)) hf1 (cU hR1.sL hf1) (fun B q1 r hR hv e2 hR2 hf2 => ?_) fun w pl r σ2 hR hr0 e2 hZ f2 => ?_
    · subst hv
      simp only [sW_eq (show (okX (sL σ1 42 C.length (lN (lbs C).length)) q1).2.2 = σ.2.2 from e1)]
      refine kLab (t := t) (n := n) (e := e) (hA2.fr okX_fr) (by show (lbs C).length + 0 < _; omega) fun σ3 e3 g1 _ g3 hA3 => ?_
      simp only [sW_eq (show σ3.2.2 = σ.2.2 from e3.trans e1)]
      refine fo σ3 q1 (0, 0, [B]) _ ?_ (e3.trans e1) hA3 ?_ (g1 _ hR2) (g3 hf2)
      · unfold pOn
        rw [if_pos ho2, hR]
        rfl
      · unfold iFirst
        rw [lbB_len, if_pos (show iOp (mkI p op (0, 0, [B])) = 12 ∨ iOp (mkI p op (0, 0, [B])) = 13 ∨ iOp (mkI p op (0, 0, [B])) = 14 from by rcases ho2 with z | z; exact Or.inl z; exact Or.inr (Or.inl z))]
    · subst hr0
      simp only [sW_eq (show σ2.2.2 = σ.2.2 from e2.trans e1)]
      refine kLab (t := t) (n := n) (e := e) (B := 0) (hA2.fr f2) (by show (lbs C).length + 0 < _; omega) fun σ3 e3 _ g2 _ hA3 => ?_
      simp only [sW_eq (show σ3.2.2 = σ.2.2 from e3.trans (e2.trans e1))]
      refine fz σ3 w pl ?_ (e3.trans (e2.trans e1)) hA3.1 (g2 _ _ hZ)
      unfold pOn
      rw [if_pos ho2, hR]
      rfl
  refine ⟨fun z => ⟨hin, br (Or.inl ((hq (by decide) rfl).mp z))⟩, fun z12 => ⟨fun z13 => ?_, fun z => ⟨hin, br (Or.inr ((hq (by decide) rfl).mp z))⟩⟩⟩
  have n12 : op ≠ 12 := fun y => z12 ((hq (by decide) rfl).mpr y)
  have n13 : op ≠ 13 := fun y => z13 ((hq (by decide) rfl).mpr y)
  have hnb : ¬ (op = 12 ∨ op = 13) := fun o => o.elim n12 n13
  refine c_hasNumber.mono fun x σ2 hx => ?_
  obtain ⟨r, rfl, e2, rfl, rfl⟩ := Qi_s hx
  refine ⟨e2, ?_⟩
  simp only [sW_eq e1]
  refine ⟨fun zn => ?_, fun zn => ?_⟩
  · have hnn : ¬ (op = 16 ∨ (32 ≤ op ∧ op ≤ 36)) := fun y => by rw [hhn.mpr y] at zn; exact absurd zn (by decide)
    refine ⟨fun z17 => ?_, fun z17 => ?_⟩
    · have n17 : op ≠ 17 := fun y => z17 ((hq (by decide) rfl).mpr y)
      have zer : (op = 63 ∨ op = 64) → Dv (d + 2) 42 [.ref 48, .ref 46] σ2 (fun σ8 => (sW σ8 σ).2.2 = σ.2.2 ∧ YR t n e sDC (rOd C σ p op) (pOn t e p op q) σ (sW σ8 σ)) := by
        intro hz
        have hp1 : pOn t e p op q = bR (rX 0 t e q) fun _ q1 => .inl ((0, 0, []), q1) := by
          unfold pOn
          rw [if_neg hnb, if_neg hnn, if_neg n17, if_pos hz]
        refine k_zero hR1 hf1 (fun q1 hR hR2 hf2 => ?_) fun w pl σ3 hR e3 hZ f3 => ?_
        · simp only [sW_eq (show (okX σ2 q1).2.2 = σ.2.2 from e1)]
          exact fo _ q1 (0, 0, []) 0 (by rw [hp1, hR]; rfl) e1 (hA.fr okX_fr) (nbr n12 n13 _ _ _) hR2 hf2
        · simp only [sW_eq (e3.trans e1)]
          exact fz σ3 w pl (by rw [hp1, hR]; rfl) (e3.trans e1) (hA.fr f3).1 hZ
      have con : (op = 65 ∨ op = 66) → Wq 40 (d + 3) 124 [none, some (.ref 46), some (.ref 36), some (.int (nI op)), none, some (.int (nI C.length))] [] σ2 (Qv fun σ' => σ'.2.2 = σ.2.2 ∧ YR t n e sDC (rOd C σ p op) (pOn t e p op q) σ σ') := by
        intro hz
        have hp1 : pOn t e p op q = bR (rG (decide (op = 65)) t e q) fun v q1 => .inl ((v, 0, []), q1) := by
          unfold pOn
          rw [if_neg hnb, if_neg hnn, if_neg n17, if_neg (by omega), if_pos hz]
        have go : ∀ W : Bool, decide (op = 65) = W → Dj (d + 2) 43 [.ref 46, .int (sWd W)] σ2 (fun x2 σ1 => vp_in (nI C.length) 4000 ∧ (sL (sW σ1 σ2) 42 C.length x2).2.2 = σ.2.2 ∧ YR t n e sDC (rOd C σ p op) (pOn t e p op q) σ (sL (sW σ1 σ2) 42 C.length x2)) := by
          intro W hW
          rw [hW] at hp1
          refine kJ hR1 hf1 (cG hR1 hf1) (fun v q1 r hR hv e3 hR2 hf2 => ?_) fun w pl r σ3 hR _ e3 hZ f3 => ?_
          · subst hv
            refine ⟨hin, ?_⟩
            simp only [sW_okX]
            exact fo _ q1 (r, 0, []) r (by rw [hp1, hR]; rfl) e1 ((hA.fr okX_fr).setF r) (nbr n12 n13 _ _ _) hR2.sL hf2
          · refine ⟨hin, ?_⟩
            simp only [sW_eq e3]
            exact fz _ w pl (by rw [hp1, hR]; rfl) (e3.trans e1) ((hA.fr f3).setF r).1 hZ.sL
        refine S_CodeReader_withOperands_124 ⟨fun z => ?_, fun z => ?_⟩
        · rw [nI_clamp (by omega)]
          exact go false (decide_eq_false fun y => z ((hq (by decide) rfl).mpr y))
        · rw [nI_clamp (by omega)]
          exact go true (decide_eq_true ((hq (by decide) rfl).mp z))
      refine ⟨fun z => zer (Or.inl ((hq (by decide) rfl).mp z)), fun z63 => ⟨fun z64 => ⟨fun z => con (Or.inl ((hq (by decide) rfl).mp z)), fun z65 => ⟨fun z66 => ?_, fun z => con (Or.inr ((hq (by decide) rfl).mp z))⟩⟩, fun z => zer (Or.inr ((hq (by decide) rfl).mp z))⟩⟩
      have n63 : op ≠ 63 := fun y => z63 ((hq (by decide) rfl).mpr y)
      have n64 : op ≠ 64 := fun y => z64 ((hq (by decide) rfl).mpr y)
      have n65 : op ≠ 65 := fun y => z65 ((hq (by decide) rfl).mpr y)
      have n66 : op ≠ 66 := fun y => z66 ((hq (by decide) rfl).mpr y)
      have hp1 : pOn t e p op q = if 40 ≤ op ∧ op ≤ 62 then pO40 t e q else .inr (-1, nI p) := by
        unfold pOn
        rw [if_neg hnb, if_neg hnn, if_neg n17, if_neg (by omega), if_neg (by omega)]
      have bad : ¬ (40 ≤ op ∧ op ≤ 62) → Dv (d + 2) 22 [.ref 46, .int (-1 : Int32), .int (nI p)] σ2 (fun σ9 => (sW σ9 σ).2.2 = σ.2.2 ∧ YR t n e sDC (rOd C σ p op) (pOn t e p op q) σ (sW σ9 σ)) := by
        intro hb
        rw [if_neg hb] at hp1
        refine kFail hR1 hf1 (by decide) fun σ3 e3 hZ f3 => ?_
        simp only [sW_eq (e3.trans e1)]
        exact fz σ3 _ _ hp1 (e3.trans e1) (hA.fr f3).1 hZ
      refine ⟨fun z => bad fun y => ?_, fun z40 => ⟨fun z => bad fun y => ?_, fun z62 => ?_⟩⟩
      · have := (nI_ltI (b := 40) (by omega) (by decide)).mp z
        omega
      · have := (nI_ltI (a := 62) (by decide) (by omega)).mp z
        omega
      have r40 : 40 ≤ op := Nat.not_lt.mp fun y => z40 ((nI_ltI (b := 40) (by omega) (by decide)).mpr y)
      have r62 : op ≤ 62 := Nat.not_lt.mp fun y => z62 ((nI_ltI (a := 62) (by decide) (by omega)).mpr y)
      rw [if_pos ⟨r40, r62⟩] at hp1
      refine kJ hR1 hf1 (cU hR1 hf1) (fun al q1 r hR hv e3 hR2 hf2 => ?_) fun w pl r σ3 hR hr0 e3 hZ f3 => ?_
      · subst hv
        obtain ⟨-, hal, -, -⟩ := nU_l hR
        simp only [sW_eq (show (okX σ2 q1).2.2 = σ.2.2 from e1)]
        refine ⟨hin, ?_⟩
        have em : (if (99 : Int64) < lN al then (99 : Int64) else lN al).toInt32 = nI (min al 99) := by
          have hlt : ((99 : Int64) < lN al) ↔ 99 < al := by
            rw [← Int64.not_le, show (99 : Int64) = lN 99 from rfl, pk_lLE (by omega) (by omega), Nat.not_le]
          by_cases h99 : 99 < al
          · rw [if_pos (hlt.mpr h99), show min al 99 = 99 by omega]
            rfl
          · rw [if_neg (fun y => h99 (hlt.mp y)), show min al 99 = al by omega]
            exact lN_i al
        rw [em]
        generalize hτ : sI (okX σ2 q1) 43 C.length (nI (min al 99)) = τ
        have k1 : RX t n e q1 τ := by subst hτ; exact hR2.sI rfl
        have k2 : τ.1 46 3 = 0 := by subst hτ; exact f0_sI hf2 rfl
        have k3 : τ.2.2 = σ.2.2 := by subst hτ; exact e1
        have k4 : AddR C σ τ op 0 (nI (min al 99)) [] := by subst hτ; exact (hA.fr okX_fr).setS _
        clear hτ
        refine kFine k1 k2 ⟨fun z => absurd z (by decide), fun _ => ?_⟩
        simp only [sW_eq k3]
        refine kJ k1 k2 (cU k1 k2) (fun f q2 r hR3 hv e4 hR4 hf4 => ?_) fun w pl r σ4 hR3 hr0 e4 hZ f4 => ?_
        · subst hv
          simp only [sW_eq (show (okX τ q2).2.2 = σ.2.2 from k3)]
          refine ⟨hin, ?_⟩
          refine fo _ q2 (lN f, min al 99, []) (lN f) ?_ k3 ((k4.fr okX_fr).setF _) (nbr n12 n13 _ _ _) hR4.sL hf4
          rw [hp1]
          unfold pO40
          rw [hR]
          show bR (nU t e q1) _ = _
          rw [hR3]
          rfl
        · simp only [sW_eq (e4.trans k3)]
          refine ⟨hin, ?_⟩
          refine fz _ w pl ?_ (e4.trans k3) ((k4.fr f4).setF r).1 hZ.sL
          rw [hp1]
          unfold pO40
          rw [hR]
          show bR (nU t e q1) _ = _
          rw [hR3]
          rfl
      · subst hr0
        simp only [sW_eq (e3.trans e1)]
        refine ⟨hin, ?_⟩
        have hp2 : pOn t e p op q = .inr (w, pl) := by
          rw [hp1]
          unfold pO40
          rw [hR]
          rfl
        have hZ2 : ∀ v, ZX t n e w pl (sI σ3 43 C.length v) := fun v => hZ.sI rfl
        refine zFine (hZ2 _) ⟨fun _ => ⟨hin, ?_⟩, fun z => absurd rfl z⟩
        rw [sW_eq (show (sI σ3 43 C.length ((if (99 : Int64) < 0 then (99 : Int64) else 0).toInt32)).2.2 = σ.2.2 from e3.trans e1)]
        exact fz _ w pl hp2 (e3.trans e1) (((hA.fr f3).setS _).setF _).1 (hZ2 _).sL
    · have e17 : op = 17 := (hq (by decide) rfl).mp z17
      have hp1 : pOn t e p op q = pO17 t e q := by
        unfold pOn
        rw [if_neg hnb, if_neg hnn, if_pos e17]
      refine kJ hR1 hf1 (cU hR1 hf1) (fun B q1 r hR hv e3 hR2 hf2 => ?_) fun w pl r σ3 hR hr0 e3 hZ f3 => ?_
      · subst hv
        simp only [sW_eq (show (okX σ2 q1).2.2 = σ.2.2 from e1)]
        refine ⟨hin, ?_⟩
        rw [lN_i]
        have hA3 := (hA.fr (okX_fr (q := q1))).setF ((nI B).toInt64)
        refine k_zero (hR2.sL (c := 42) (j := C.length) (v := (nI B).toInt64)) hf2 (fun q2 hR3 hR4 hf4 => ?_) fun w pl σ4 hR3 e4 hZ f4 => ?_
        · simp only [sW_eq (show (okX (sL (okX σ2 q1) 42 C.length (nI B).toInt64) q2).2.2 = σ.2.2 from e1)]
          refine fo _ q2 ((nI B).toInt64, 0, []) _ ?_ e1 (hA3.fr okX_fr) (nbr n12 n13 _ _ _) hR4 hf4
          rw [hp1]
          unfold pO17
          rw [hR]
          show bR (rX 0 t e q1) _ = _
          rw [hR3]
          rfl
        · simp only [sW_eq (show σ4.2.2 = σ.2.2 from e4.trans e1)]
          refine fz _ w pl ?_ (e4.trans e1) (hA3.fr f4).1 hZ
          rw [hp1]
          unfold pO17
          rw [hR]
          show bR (rX 0 t e q1) _ = _
          rw [hR3]
          rfl
      · subst hr0
        simp only [sW_eq (e3.trans e1)]
        refine ⟨hin, ?_⟩
        have hZ2 : ∀ v, ZX t n e w pl (sL σ3 42 C.length v) := fun v => hZ.sL
        refine z_zero (hZ2 _) ?_
        simp only [sW_eq (show (sL σ3 42 C.length ((0 : Int64).toInt32.toInt64)).2.2 = σ.2.2 from e3.trans e1)]
        refine fz _ w pl ?_ (e3.trans e1) ((hA.fr f3).setF _).1 (hZ2 _)
        rw [hp1]
        unfold pO17
        rw [hR]
        rfl
  · have hnn : op = 16 ∨ (32 ≤ op ∧ op ≤ 36) := hhn.mp (by cases hh : hnI (nI op); exact absurd (b2i_0.mpr hh) zn; rfl)
    have hp1 : pOn t e p op q = bR (nU t e q) fun B q1 => .inl (((nI B).toInt64, 0, []), q1) := by
      unfold pOn
      rw [if_neg hnb, if_pos hnn]
    refine kJ hR1 hf1 (cU hR1 hf1) (fun B q1 r hR hv e3 hR2 hf2 => ?_) fun w pl r σ3 hR hr0 e3 hZ f3 => ?_
    · subst hv
      simp only [sW_eq (show (okX σ2 q1).2.2 = σ.2.2 from e1)]
      refine ⟨hin, ?_⟩
      rw [lN_i]
      refine fo _ q1 ((nI B).toInt64, 0, []) _ (by rw [hp1, hR]; rfl) e1 ((hA.fr okX_fr).setF _) (nbr n12 n13 _ _ _) hR2.sL hf2
    · subst hr0
      simp only [sW_eq (e3.trans e1)]
      refine ⟨hin, ?_⟩
      exact fz _ w pl (by rw [hp1, hR]; rfl) (e3.trans e1) ((hA.fr f3).setF _).1 hZ.sL
end OPX
