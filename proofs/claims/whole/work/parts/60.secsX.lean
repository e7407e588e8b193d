/-! SECTIONS, ALL OF THEM: the class -/
def pId (t : Nat → UInt8) (n last p : Nat) : Rr (Nat × Nat) := bR (nN t n p) fun id q => if id = 2 ∨ id = 8 ∨ id = 11 then .inr (-2, nI p) else if 11 < id ∨ (id ≠ 0 ∧ id ≤ last) then .inr (-1, nI p) else bR (rZ t n q) fun B q2 => .inl ((id, B), q2)
def pSe (t : Nat → UInt8) (m : Md) (id q e : Nat) : Rr Md :=
  if id = 0 then bR (pNm t e q) fun _ _ => .inl (m, e)
  else if id = 1 then bR (pVc t e (pTy t e) q) fun l q2 => .inl (setT m l, q2)
  else if id = 3 then bR (pVc t e (nU t e) q) fun l q2 => .inl (setU m l, q2)
  else if id = 4 then bR (pVc t e (pTab t e) q) fun l q2 => .inl (setA m l, q2)
  else if id = 5 then bR (pVc t e (pLi t e) q) fun l q2 => .inl (setM m l, q2)
  else if id = 6 then bR (pVc t e (pGl t e) q) fun l q2 => .inl (setG m l, q2)
  else if id = 7 then bR (pVc t e (pEx t e) q) fun l q2 => .inl (setE m l, q2)
  else if id = 9 then bR (pVc t e (pEl t e) q) fun l q2 => .inl (setL m l, q2)
  else bR (pCS t e q) fun x q2 => .inl (setC m x, q2)
/-- the parts of sections that are still to come are empty -/
def emp (m : Md) (last : Nat) : Prop := (last < 1 → mdT m = []) ∧ (last < 3 → mdU m = []) ∧ (last < 4 → mdA m = []) ∧ (last < 5 → mdM m = []) ∧ (last < 6 → mdG m = []) ∧ (last < 7 → mdE m = []) ∧ (last < 9 → mdL m = []) ∧ (last < 10 → mdC m = ([], []))
theorem Fr.rdX {σ σ' : fkS} (h : Fr f46 σ σ') : Fr sRd σ σ' := h.mono fun c j h => by
  unfold sRd
  rw [h]
  rfl
section SEC2
variable {t : Nat → UInt8} {n e d p q : Nat} {σ : fkS} {m : Md}
theorem c_sectionId {last : Nat} (hl : last ≤ 11) (h : RX t n n p σ) (hf : σ.1 46 3 = 0) (h45 : σ.1 45 2 = nI last) {P : Int32 → fkS → Prop}
    (ok : ∀ id B q σ', pId t n last p = .inl ((id, B), q) → σ'.2.2 = σ.2.2 → Fr sRd σ σ' → RX t n (q + B) q σ' → q + B ≤ n → p < q → σ'.1 46 3 = 0 → σ'.1 45 2 = nI (if id = 0 then last else id) → P (nI id) σ')
    (ft : ∀ w pl r σ', pId t n last p = .inr (w, pl) → σ'.2.2 = σ.2.2 → Fr sRd σ σ' → ZX t n n w pl σ' → P r σ') : Di (d + 4) 23 [.ref 45] σ P := by
  have hp1 : σ.1 46 1 = nI p := h.2.2.2.2.2.1
  -- behind a fault
  have z73 : ∀ (w pl : Int32) (v : Int32) (σ1 : fkS), pId t n last p = .inr (w, pl) → σ1.2.2 = σ.2.2 → Fr f46 σ σ1 → ZX t n n w pl σ1 → Wq 23 (d + 4) 73 [some (.ref 45), none, some (.int v)] [] σ1 (Qi fun r σ' => σ'.2.2 = σ.2.2 ∧ P r σ') := by
    intro w pl v σ1 hR e1 f1 hZ
    refine S_ModuleReader_sectionId_73 (zFine hZ ⟨fun _ => ?_, fun z => absurd rfl z⟩)
    exact ⟨e1, ft w pl v σ1 hR e1 f1.rdX hZ⟩
  refine S_ModuleReader_sectionId ?_
  rw [hp1]
  refine kI h hf (cN h hf) (fun id q r hR hv e1 hR1 hf1 => ?_) fun w pl r σ1 hR hr0 e1 hZ f1 => ?_
  · subst hv
    obtain ⟨-, hid, hq, hpn⟩ := nN_l hR
    have ho : id < 256 := by have := (t p).toNat_lt; omega
    have hq2 : ∀ {b : Nat} {x : Int32}, b < 256 → x = nI b → (nI id = x ↔ id = b) := fun hb hx => op_nat ho hb hx
    have hpi : pId t n last p = if id = 2 ∨ id = 8 ∨ id = 11 then .inr (-2, nI p) else if 11 < id ∨ (id ≠ 0 ∧ id ≤ last) then .inr (-1, nI p) else bR (rZ t n q) fun B q2 => .inl ((id, B), q2) := by unfold pId; rw [hR]; rfl
    simp only [sW_okX]
    have h45b : (okX σ q).1 45 2 = nI last := h45
    rw [h45b]
    have bad : ∀ w : Int32, w ≠ 0 → pId t n last p = .inr (w, nI p) → Dv (d + 3) 22 [.ref 46, .int w, .int (nI p)] (okX σ q) (fun σ3 => Wq 23 (d + 4) 73 [some (.ref 45), none, some (.int (nI id))] [] (sW σ3 σ) (Qi fun r σ' => σ'.2.2 = σ.2.2 ∧ P r σ')) := by
      intro w hw hb
      refine kFail hR1 hf1 hw fun σ2 e2 hZ f2 => ?_
      simp only [sW_eq (show σ2.2.2 = σ.2.2 from e2)]
      exact z73 w (nI p) _ σ2 hb e2 (okX_fr.tr f2) hZ
    have good : ¬ (id = 2 ∨ id = 8 ∨ id = 11) → ¬ (11 < id ∨ (id ≠ 0 ∧ id ≤ last)) → Wq 23 (d + 4) 73 [some (.ref 45), none, some (.int (nI id))] [] (okX σ q) (Qi fun r σ' => σ'.2.2 = σ.2.2 ∧ P r σ') := by
      intro g1 g2
      rw [if_neg g1, if_neg g2] at hpi
      refine S_ModuleReader_sectionId_73 (kFine hR1 hf1 ⟨fun z => absurd z (by decide), fun _ => ?_⟩)
      simp only [sW_id]
      refine (c_narrow (d := d + 1) hR1 hf1).mono fun x σ1 hx => ?_
      obtain ⟨rfl, e1, hu⟩ := Qv_s hx
      refine ⟨e1, ?_⟩
      simp only [sW_eq e1]
      unfold nX at hu
      cases hZs : rZ t n q with
      | inr y =>
        obtain ⟨w, pl⟩ := y
        rw [hZs] at hu hpi
        obtain ⟨hw, q2, hq2', rfl⟩ := hu
        have hZ : ZX t n n w pl (ftX (okX σ q) q2 w pl) := hR1.ft hq2' hw
        have fz : Fr sRd σ (ftX (okX σ q) q2 w pl) := okX_fr.rdX.tr ftX_fr.rdX
        refine ⟨fun _ => ⟨rfl, ft w pl _ _ hpi rfl (fz.sI rfl) (hZ.sI rfl)⟩, fun _ => ⟨rfl, ft w pl _ _ hpi rfl (fz.sI rfl) (hZ.sI rfl)⟩⟩
      | inl y =>
        obtain ⟨B, q2⟩ := y
        rw [hZs] at hu hpi
        obtain ⟨hqB, rfl⟩ := hu
        obtain ⟨hz1, hz2, -⟩ := rZ_l2 hZs
        have hR2 : RX t n (q2 + B) q2 (sI (okX (okX σ q) q2) 46 2 (nI (q2 + B))) := by
          obtain ⟨g1, g2, g3, g4, g5, g6, g7, g8⟩ := h
          refine ⟨g1, fun k hk => ?_, g3, hqB, sI_ss, ?_, by omega, ?_⟩
          · rw [sI_o (by decide)]
            exact g2 k hk
          · rw [sI_so (by decide)]
            exact sI_ss
          · rw [sI_so (by decide), sI_so (by decide)]
            exact g8
        have hf2 : (sI (okX (okX σ q) q2) 46 2 (nI (q2 + B))).1 46 3 = 0 := (sI_so (by decide)).trans hf
        have h452 : (sI (okX (okX σ q) q2) 46 2 (nI (q2 + B))).1 45 2 = nI last := h45
        have fr2 : Fr sRd σ (sI (okX (okX σ q) q2) 46 2 (nI (q2 + B))) := (okX_fr.rdX.tr okX_fr.rdX).sI rfl
        have er2 : (sI (okX (okX σ q) q2) 46 2 (nI (q2 + B))).2.2 = σ.2.2 := rfl
        generalize sI (okX (okX σ q) q2) 46 2 (nI (q2 + B)) = τ at e1 hR2 hf2 h452 fr2 er2 ⊢
        refine ⟨fun z => ⟨er2, ok id B q2 _ hpi er2 (fr2.sI rfl) (hR2.sI rfl) hqB (by omega) (f0_sI hf2 rfl) ?_⟩, fun z => ⟨er2, ok id B q2 _ hpi er2 (fr2.sI rfl) (hR2.sI rfl) hqB (by omega) (f0_sI hf2 rfl) ?_⟩⟩
        · rw [sI_ss, if_neg (fun y => z (by rw [y]; rfl))]
        · rw [sI_ss, h452, if_pos ((hq2 (b := 0) (by decide) rfl).mp z)]
    refine ⟨fun z => bad _ (by decide) ?_, fun z2 => ⟨fun z => bad _ (by decide) ?_, fun z8 => ⟨fun z11 => ⟨fun z => bad _ (by decide) ?_, fun z12 => ⟨fun z => good ?_ ?_, fun z0 => ⟨fun z => good ?_ ?_, fun zl => bad _ (by decide) ?_⟩⟩⟩, fun z => bad _ (by decide) ?_⟩⟩⟩
    · rw [hpi, if_pos (Or.inl ((hq2 (by decide) rfl).mp z))]
    · rw [hpi, if_pos (Or.inr (Or.inl ((hq2 (by decide) rfl).mp z)))]
    all_goals (try (have n2 : id ≠ 2 := fun y => z2 ((hq2 (by decide) rfl).mpr y)))
    all_goals (try (have n8 : id ≠ 8 := fun y => z8 ((hq2 (by decide) rfl).mpr y)))
    all_goals (try (have n11 : id ≠ 11 := fun y => z11 ((hq2 (by decide) rfl).mpr y)))
    · have := (nI_ltI (a := 11) (by decide) (by omega)).mp z
      rw [hpi, if_neg (by omega), if_pos (Or.inl this)]
    · omega
    · have := (hq2 (b := 0) (by decide) rfl).mp z
      omega
    · omega
    · have h1 : ¬ 11 < id := fun y => z12 ((nI_ltI (a := 11) (by decide) (by omega)).mpr y)
      have h2 : last < id := (nI_ltI (by omega) (by omega)).mp z
      omega
    · have h2 : ¬ last < id := fun y => zl ((nI_ltI (by omega) (by omega)).mpr y)
      have h3 : id ≠ 0 := fun y => z0 ((hq2 (b := 0) (by decide) rfl).mpr y)
      rw [hpi, if_neg (by omega), if_pos (Or.inr ⟨h3, by omega⟩)]
    · rw [hpi, if_pos (Or.inr (Or.inr ((hq2 (by decide) rfl).mp z)))]
  · subst hr0
    simp only [sW_eq e1]
    have hpi : pId t n last p = .inr (w, pl) := by unfold pId; rw [hR]; rfl
    have fin := z73 w pl 0 σ1 hpi e1 f1 hZ
    refine ⟨fun z => absurd z (by decide), fun _ => ⟨fun z => absurd z (by decide), fun _ => ⟨fun _ => ⟨fun z => absurd z (by decide), fun _ => ⟨fun _ => fin, fun z => absurd trivial z⟩⟩, fun z => absurd z (by decide)⟩⟩⟩
theorem c_contentz {w pl : Int32} {id : Int32} (h : ZX t n e w pl σ) {P : fkS → Prop} (ok : P σ) : Dv (d + 5) 47 [.ref 45, .ref 24, .int id] σ P :=
  S_ModuleReader_content (zFine h ⟨fun z => absurd rfl z, fun _ => ⟨rfl, ok⟩⟩)
theorem c_codesz {w pl : Int32} (h : ZX t n e w pl σ) {P : fkS → Prop} (ok : P σ) : Dv (d + 6) 27 [.ref 48, .ref 46, .ref 36] σ P := by
  refine S_CodeReader_read (zFine h ⟨fun _ => ?_, fun z => absurd rfl z⟩)
  exact S_CodeReader_read_25 ⟨fun _ => ⟨rfl, ok⟩, fun z => absurd (by decide) z⟩
theorem c_sec0 (h : RX t n e q σ) (hf : σ.1 46 3 = 0) (hD : DX m σ) (hqe : e ≤ 4000) : Dv (d + 5) 47 [.ref 45, .ref 24, .int 0] σ (fun σ' => YR t n e sRX DX (pSe t m 0 q e) σ σ') := by
  refine S_ModuleReader_content (kFine h hf ⟨fun _ => ⟨fun z => absurd rfl z, fun _ => ?_⟩, fun z => absurd z (by decide)⟩)
  simp only [sW_id]
  have hp : pSe t m 0 q e = bR (pNm t e q) fun _ _ => .inl (m, e) := by unfold pSe; rw [if_pos rfl]
  refine kYI (c_name (d := d + 2) h hf) (fun a q1 r σ1 hR e1 f1 hv hR1 hf1 => ?_) fun w pl r σ1 hR e1 f1 hZ => ?_
  · simp only [sW_eq e1]
    rw [hR1.2.2.2.2.1]
    refine ⟨e1, f1.rxF.sI rfl, ?_⟩
    rw [hp, hR]
    exact ⟨(hD.fr f1.rdX).fr (Fr.rf.sI rfl), hR1.at hqe, hf1⟩
  · simp only [sW_eq e1]
    refine ⟨e1, f1.rxF.sI rfl, ?_⟩
    rw [hp, hR]
    have he : σ1.1 46 2 = nI e := hZ.1.choose_spec.2.2.2.2.1
    rw [he]
    exact hZ.ok hqe
theorem c_sec1 (h : RX t n e q σ) (hf : σ.1 46 3 = 0) (hD : DX m σ) (h0 : mdT m = []) : Dv (d + 5) 47 [.ref 45, .ref 24, .int (1 : Int32)] σ (fun σ' => YR t n e sRX DX (pSe t m 1 q e) σ σ') := by
  have hD2 := hD
  obtain ⟨hT, hU, hA, hM, hG, hE, hL, hC⟩ := hD
  rw [h0] at hT
  have hp : pSe t m 1 q e = bR (pVc t e (pTy t e) q) fun l q2 => .inl (setT m l, q2) := by unfold pSe; rw [if_neg (by decide), if_pos rfl]
  refine kY (w_content (d := d) (S := sDT) (Rel := DT) (P := pTy t e) (Inv := fun _ _ => True) (id := (1 : Int32)) (by decide) h hf (fun _ _ h => h.f46T) (fun σ' f => hT.fr f rfl (fun _ => rfl)) (fun _ _ => trivial) (fun l p σ hl _ h hf hD => c_thing1 (d := d) hl h hf hD) (fun _ _ _ _ _ _ => trivial)) (fun l q1 σ1 hR e1 f1 hv hR1 hf1 => ?_) fun w pl σ1 hR e1 f1 hZ => ?_
  · refine ⟨f1.rxT, ?_⟩
    rw [hp, hR]
    exact ⟨hD2.upT f1 hv, hR1, hf1⟩
  · refine ⟨f1.rxT, ?_⟩
    rw [hp, hR]
    exact hZ
theorem c_sec3 (h : RX t n e q σ) (hf : σ.1 46 3 = 0) (hD : DX m σ) (h0 : mdU m = []) : Dv (d + 5) 47 [.ref 45, .ref 24, .int (3 : Int32)] σ (fun σ' => YR t n e sRX DX (pSe t m 3 q e) σ σ') := by
  have hD2 := hD
  obtain ⟨hT, hU, hA, hM, hG, hE, hL, hC⟩ := hD
  rw [h0] at hU
  have hp : pSe t m 3 q e = bR (pVc t e (nU t e) q) fun l q2 => .inl (setU m l, q2) := by unfold pSe; rw [if_neg (by decide), if_neg (by decide), if_pos rfl]
  refine kY (w_content (d := d) (S := sDU) (Rel := DU) (P := nU t e) (Inv := fun _ _ => True) (id := (3 : Int32)) (by decide) h hf (fun _ _ h => h.f46U) (fun σ' f => hU.fr f rfl (fun _ => rfl)) (fun _ _ => trivial) (fun l p σ hl _ h hf hD => c_thing3 (d := d) hl h hf hD) (fun _ _ _ _ _ _ => trivial)) (fun l q1 σ1 hR e1 f1 hv hR1 hf1 => ?_) fun w pl σ1 hR e1 f1 hZ => ?_
  · refine ⟨f1.rxU, ?_⟩
    rw [hp, hR]
    exact ⟨hD2.upU f1 hv, hR1, hf1⟩
  · refine ⟨f1.rxU, ?_⟩
    rw [hp, hR]
    exact hZ
theorem c_sec4 (h : RX t n e q σ) (hf : σ.1 46 3 = 0) (hD : DX m σ) (h0 : mdA m = []) : Dv (d + 5) 47 [.ref 45, .ref 24, .int (4 : Int32)] σ (fun σ' => YR t n e sRX DX (pSe t m 4 q e) σ σ') := by
  have hD2 := hD
  obtain ⟨hT, hU, hA, hM, hG, hE, hL, hC⟩ := hD
  rw [h0] at hA
  have hp : pSe t m 4 q e = bR (pVc t e (pTab t e) q) fun l q2 => .inl (setA m l, q2) := by unfold pSe; rw [if_neg (by decide), if_neg (by decide), if_neg (by decide), if_pos rfl]
  refine kY (w_content (d := d) (S := sDA) (Rel := DA) (P := pTab t e) (Inv := fun _ _ => True) (id := (4 : Int32)) (by decide) h hf (fun _ _ h => h.f46A) (fun σ' f => hA.fr f rfl (fun _ => rfl)) (fun _ _ => trivial) (fun l p σ hl _ h hf hD => c_thing4 (d := d) hl h hf hD) (fun _ _ _ _ _ _ => trivial)) (fun l q1 σ1 hR e1 f1 hv hR1 hf1 => ?_) fun w pl σ1 hR e1 f1 hZ => ?_
  · refine ⟨f1.rxA, ?_⟩
    rw [hp, hR]
    exact ⟨hD2.upA f1 hv, hR1, hf1⟩
  · refine ⟨f1.rxA, ?_⟩
    rw [hp, hR]
    exact hZ
theorem c_sec5 (h : RX t n e q σ) (hf : σ.1 46 3 = 0) (hD : DX m σ) (h0 : mdM m = []) : Dv (d + 5) 47 [.ref 45, .ref 24, .int (5 : Int32)] σ (fun σ' => YR t n e sRX DX (pSe t m 5 q e) σ σ') := by
  have hD2 := hD
  obtain ⟨hT, hU, hA, hM, hG, hE, hL, hC⟩ := hD
  rw [h0] at hM
  have hp : pSe t m 5 q e = bR (pVc t e (pLi t e) q) fun l q2 => .inl (setM m l, q2) := by unfold pSe; rw [if_neg (by decide), if_neg (by decide), if_neg (by decide), if_neg (by decide), if_pos rfl]
  refine kY (w_content (d := d) (S := sDM) (Rel := DM) (P := pLi t e) (Inv := fun _ _ => True) (id := (5 : Int32)) (by decide) h hf (fun _ _ h => h.f46M) (fun σ' f => hM.fr f rfl (fun _ => rfl)) (fun _ _ => trivial) (fun l p σ hl _ h hf hD => c_thing5 (d := d) hl h hf hD) (fun _ _ _ _ _ _ => trivial)) (fun l q1 σ1 hR e1 f1 hv hR1 hf1 => ?_) fun w pl σ1 hR e1 f1 hZ => ?_
  · refine ⟨f1.rxM, ?_⟩
    rw [hp, hR]
    exact ⟨hD2.upM f1 hv, hR1, hf1⟩
  · refine ⟨f1.rxM, ?_⟩
    rw [hp, hR]
    exact hZ
theorem c_sec6 (h : RX t n e q σ) (hf : σ.1 46 3 = 0) (hD : DX m σ) (h0 : mdG m = []) : Dv (d + 5) 47 [.ref 45, .ref 24, .int (6 : Int32)] σ (fun σ' => YR t n e sRX DX (pSe t m 6 q e) σ σ') := by
  have hD2 := hD
  obtain ⟨hT, hU, hA, hM, hG, hE, hL, hC⟩ := hD
  rw [h0] at hG
  have hp : pSe t m 6 q e = bR (pVc t e (pGl t e) q) fun l q2 => .inl (setG m l, q2) := by unfold pSe; rw [if_neg (by decide), if_neg (by decide), if_neg (by decide), if_neg (by decide), if_neg (by decide), if_pos rfl]
  refine kY (w_content (d := d) (S := sDG) (Rel := DG) (P := pGl t e) (Inv := fun _ _ => True) (id := (6 : Int32)) (by decide) h hf (fun _ _ h => h.f46G) (fun σ' f => hG.fr f rfl (fun _ => rfl) (fun _ => rfl)) (fun _ _ => trivial) (fun l p σ hl _ h hf hD => c_thing6 (d := d) hl h hf hD) (fun _ _ _ _ _ _ => trivial)) (fun l q1 σ1 hR e1 f1 hv hR1 hf1 => ?_) fun w pl σ1 hR e1 f1 hZ => ?_
  · refine ⟨f1.rxG, ?_⟩
    rw [hp, hR]
    exact ⟨hD2.upG f1 hv, hR1, hf1⟩
  · refine ⟨f1.rxG, ?_⟩
    rw [hp, hR]
    exact hZ
theorem c_sec7 (h : RX t n e q σ) (hf : σ.1 46 3 = 0) (hD : DX m σ) (h0 : mdE m = []) : Dv (d + 5) 47 [.ref 45, .ref 24, .int (7 : Int32)] σ (fun σ' => YR t n e sRX DX (pSe t m 7 q e) σ σ') := by
  have hD2 := hD
  obtain ⟨hT, hU, hA, hM, hG, hE, hL, hC⟩ := hD
  rw [h0] at hE
  have hp : pSe t m 7 q e = bR (pVc t e (pEx t e) q) fun l q2 => .inl (setE m l, q2) := by unfold pSe; rw [if_neg (by decide), if_neg (by decide), if_neg (by decide), if_neg (by decide), if_neg (by decide), if_neg (by decide), if_pos rfl]
  refine kY (w_content (d := d) (S := sDE) (Rel := DE) (P := pEx t e) (Inv := fun _ _ => True) (id := (7 : Int32)) (by decide) h hf (fun _ _ h => h.f46E) (fun σ' f => hE.fr f rfl (fun _ => rfl)) (fun _ _ => trivial) (fun l p σ hl _ h hf hD => c_thing7 (d := d) hl h hf hD) (fun _ _ _ _ _ _ => trivial)) (fun l q1 σ1 hR e1 f1 hv hR1 hf1 => ?_) fun w pl σ1 hR e1 f1 hZ => ?_
  · refine ⟨f1.rxE, ?_⟩
    rw [hp, hR]
    exact ⟨hD2.upE f1 hv, hR1, hf1⟩
  · refine ⟨f1.rxE, ?_⟩
    rw [hp, hR]
    exact hZ
theorem c_sec9 (h : RX t n e q σ) (hf : σ.1 46 3 = 0) (hD : DX m σ) (h0 : mdL m = []) (hq8 : 8 ≤ q) : Dv (d + 5) 47 [.ref 45, .ref 24, .int (9 : Int32)] σ (fun σ' => YR t n e sRX DX (pSe t m 9 q e) σ σ') := by
  have hD2 := hD
  obtain ⟨hT, hU, hA, hM, hG, hE, hL, hC⟩ := hD
  rw [h0] at hL
  have hp : pSe t m 9 q e = bR (pVc t e (pEl t e) q) fun l q2 => .inl (setL m l, q2) := by unfold pSe; rw [if_neg (by decide), if_neg (by decide), if_neg (by decide), if_neg (by decide), if_neg (by decide), if_neg (by decide), if_neg (by decide), if_pos rfl]
  refine kY (w_content (d := d) (S := sDL) (Rel := DL) (P := pEl t e) (Inv := fun l p => (elAll l).length + 8 ≤ p) (id := (9 : Int32)) (by decide) h hf (fun _ _ h => h.f46L) (fun σ' f => hL.fr f rfl rfl (fun _ => rfl) (fun _ => rfl) (fun _ => rfl)) (fun q1 hq => by show 0 + 8 ≤ q1; omega) (fun l p σ hl hi h hf hD => c_thing9 (d := d) hl hi h hf hD) (fun l p x q hi hx => by
    have := pEl_le hx
    rw [elAll_snoc, List.length_append]
    omega)) (fun l q1 σ1 hR e1 f1 hv hR1 hf1 => ?_) fun w pl σ1 hR e1 f1 hZ => ?_
  · refine ⟨f1.rxL, ?_⟩
    rw [hp, hR]
    exact ⟨hD2.upL f1 hv, hR1, hf1⟩
  · refine ⟨f1.rxL, ?_⟩
    rw [hp, hR]
    exact hZ
theorem c_sec10 (he : e ≤ n) (h : RX t n e q σ) (hf : σ.1 46 3 = 0) (hD : DX m σ) (h0 : mdC m = ([], [])) (hq8 : 8 ≤ q) : Dv (d + 6) 27 [.ref 48, .ref 46, .ref 36] σ (fun σ' => YR t n e sRX DX (pSe t m 10 q e) σ σ') := by
  have hD2 := hD
  obtain ⟨hT, hU, hA, hM, hG, hE, hL, hC⟩ := hD
  rw [h0] at hC
  have hp : pSe t m 10 q e = bR (pCS t e q) fun x q2 => .inl (setC m x, q2) := by unfold pSe; rw [if_neg (by decide), if_neg (by decide), if_neg (by decide), if_neg (by decide), if_neg (by decide), if_neg (by decide), if_neg (by decide), if_neg (by decide)]
  refine kY (c_codes (d := d) he hq8 h hf hC.1.1 hC.2.2.1.1 hC.2.2.1.2.1) (fun x q1 σ1 hR e1 f1 hv hR1 hf1 => ?_) fun w pl σ1 hR e1 f1 hZ => ?_
  · refine ⟨f1.rxC, ?_⟩
    rw [hp, hR]
    exact ⟨hD2.upC f1 hv, hR1, hf1⟩
  · refine ⟨f1.rxC, ?_⟩
    rw [hp, hR]
    exact hZ
end SEC2
