/-! NAMES AND EXPORTS: the class -/
def pNm (t : Nat → UInt8) (e p : Nat) : Rr (Nat × Nat) := bR (nU t e p) fun B p1 => if B ≤ e - p1 then .inl ((p1, B), p1 + B) else .inr (-1, nI e)
theorem w_name44z {d n e : Nat} {t : Nat → UInt8} {w pl : Int32} {v : Int64} {σ : fkS} (h : ZX t n e w pl σ) {Q : Option Value → fkS → Prop} (ok : Q (some (.int 0)) σ) : Wq 48 (d + 2) 44 [some (.ref 45), some (.long v), none] [] σ Q :=
  S_ModuleReader_skipName_44 (zFine h ⟨fun z => absurd rfl z, fun _ => ok⟩)
theorem c_name {d n e p : Nat} {t : Nat → UInt8} {σ : fkS} (h : RX t n e p σ) (hf : σ.1 46 3 = 0) : Di (d + 2) 48 [.ref 45] σ (fun r σ' => YI t n e f46 (fun a r σ' => r = nI a.2 ∧ a.1 + a.2 ≤ e ∧ σ'.1 46 1 = nI (a.1 + a.2)) (pNm t e p) σ r σ') := by
  obtain ⟨h1, h2, h3, h4, h5, h6, h7, -⟩ := id h
  refine S_ModuleReader_skipName ?_
  refine kJ h hf (cU h hf) (fun B q r hR hv e1 hR1 hf1 => ?_) fun w pl r σ1 hR hr0 e1 hZ f1 => ?_
  · subst hv
    simp only [sW_okX]
    obtain ⟨-, hB, hq1, hq2⟩ := nU_l hR
    have hp : pNm t e p = if B ≤ e - q then .inl ((q, B), q + B) else .inr (-1, nI e) := by unfold pNm; rw [hR]; rfl
    have e1 : (okX σ q).1 46 2 - (okX σ q).1 46 1 = nI e - nI q := by rw [hR1.2.2.2.2.1, hR1.2.2.2.2.2.1]
    have e2 : (okX σ q).1 46 2 = nI e := hR1.2.2.2.2.1
    rw [e1, e2]
    refine ⟨fun y => ?_, fun y => ?_⟩
    · have y1 := (sz_le hB hq2 (by omega)).mp y
      rw [if_pos y1] at hp
      refine S_ModuleReader_skipName_44 (kFine hR1 hf1 ⟨fun _ => ?_, fun z => absurd z (by decide)⟩)
      have e3 : (okX σ q).1 46 1 + (lN B).toInt32 = nI (q + B) := by rw [hR1.2.2.2.2.2.1, lN_i, nI_add]
      show (sI (okX σ q) 46 1 ((okX σ q).1 46 1 + (lN B).toInt32)).2.2 = σ.2.2 ∧ YI _ _ _ _ _ _ _ (lN B).toInt32 (sI (okX σ q) 46 1 ((okX σ q).1 46 1 + (lN B).toInt32))
      rw [e3]
      refine ⟨rfl, okX_fr.tr okX_fr, ?_⟩
      rw [hp]
      have := hR1.at (q := q + B) (by omega)
      exact ⟨⟨lN_i B, by omega, sI_ss⟩, this, hf1⟩
    · have y1 : ¬ B ≤ e - q := fun z => y ((sz_le hB hq2 (by omega)).mpr z)
      rw [if_neg y1] at hp
      refine kFail hR1 hf1 (by decide) fun σ2 e2 hZ f2 => ?_
      simp only [sW_eq (show σ2.2.2 = σ.2.2 from e2)]
      refine w_name44z hZ ⟨e2, okX_fr.tr f2, ?_⟩
      rw [hp]
      exact hZ
  · subst hr0
    simp only [sW_eq e1]
    have hp : pNm t e p = .inr (w, pl) := by unfold pNm; rw [hR]; rfl
    have fin : Qi (fun r σ' => σ'.2.2 = σ.2.2 ∧ YI t n e f46 (fun a r σ' => r = nI a.2 ∧ a.1 + a.2 ≤ e ∧ σ'.1 46 1 = nI (a.1 + a.2)) (pNm t e p) σ r σ') (some (.int 0)) σ1 := by
      refine ⟨e1, f1, ?_⟩
      rw [hp]
      exact hZ
    refine ⟨fun _ => w_name44z hZ fin, fun _ => zFail hZ ?_⟩
    simp only [sW_eq e1]
    exact w_name44z hZ fin
abbrev Ex : Type := Nat × Nat × Nat × Nat
def pEx3 (t : Nat → UInt8) (e a b k p2 : Nat) : Rr Ex := bR (nU t e p2) fun x p3 => .inl ((a, b, k, x), p3)
def pEx (t : Nat → UInt8) (e p : Nat) : Rr Ex := bR (pNm t e p) fun nm p1 => bR (nN t e p1) fun k p2 => if k ≤ 3 then pEx3 t e nm.1 nm.2 k p2 else .inr (-1, nI p1)
def rE4 (l : List Ex) (σ : fkS) : Prop := ∀ k x, l[k]? = some x → σ.1 32 (4 * k) = nI x.1 ∧ σ.1 32 (4 * k + 1) = nI x.2.1 ∧ σ.1 32 (4 * k + 2) = nI x.2.2.1 ∧ σ.1 32 (4 * k + 3) = nI x.2.2.2
def DE (l : List Ex) (σ : fkS) : Prop := σ.1 24 12 = nI l.length ∧ rE4 l σ
def sDE (c j : Nat) : Bool := f46 c j || (Nat.beq c 24 && Nat.beq j 12) || Nat.beq c 32
theorem Fr.f46E {σ σ' : fkS} (h : Fr f46 σ σ') : Fr sDE σ σ' := h.mono fun c j h => by unfold sDE; rw [h]; rfl
theorem rE4.out {l : List Ex} {σ : fkS} {j : Nat} {v : Int32} (h : rE4 l σ) (hj : 4 * l.length ≤ j) : rE4 l (sI σ 32 j v) := by
  intro k x hx
  have hk := (List.getElem?_eq_some_iff.mp hx).1
  obtain ⟨a1, a2, a3, a4⟩ := h k x hx
  refine ⟨?_, ?_, ?_, ?_⟩
  · rw [sI_so (by omega)]; exact a1
  · rw [sI_so (by omega)]; exact a2
  · rw [sI_so (by omega)]; exact a3
  · rw [sI_so (by omega)]; exact a4
theorem rE4.fr {l : List Ex} {σ σ' : fkS} {S : Nat → Nat → Bool} (h : rE4 l σ) (f : Fr S σ σ') (hs : ∀ j, S 32 j = false) : rE4 l σ' := by
  intro k x hx
  obtain ⟨a1, a2, a3, a4⟩ := h k x hx
  exact ⟨(f 32 _ (hs _)).1.trans a1, (f 32 _ (hs _)).1.trans a2, (f 32 _ (hs _)).1.trans a3, (f 32 _ (hs _)).1.trans a4⟩
theorem w_expt93z {d n e k : Nat} {t : Nat → UInt8} {w pl : Int32} {σ : fkS} (h : ZX t n e w pl σ) (hk : k < 60) : Wq 55 (d + 3) 93 [some (.ref 45), some (.ref 24), none, some (.int (nI (4 * k))), none, none] [] σ (Qv fun σ' => σ'.2.2 = σ.2.2 ∧ Fr sDE σ σ' ∧ ZX t n e w pl σ') := by
  have e3 : nI (4 * k) + (3 : Int32) = nI (4 * k + 3) := nI_add _ 3
  have hin : vp_in (nI (4 * k) + (3 : Int32)) 240 := by rw [e3]; exact vp_in_nI (by omega) (by decide)
  refine S_ModuleReader_oneExport_93 (zFine h ⟨fun _ => ⟨hin, rfl, (Fr.rf.sI rfl).sI rfl, (h.sI rfl).sI rfl⟩, fun z => absurd rfl z⟩)
theorem w_expt93 {d n e p2 a b k : Nat} {t : Nat → UInt8} {l : List Ex} {σ : fkS} (h : RX t n e p2 σ) (hf : σ.1 46 3 = 0) (hl : l.length < 60) (hc : σ.1 24 12 = nI l.length) (hr : rE4 l σ) (h0 : σ.1 32 (4 * l.length) = nI a) (h1 : σ.1 32 (4 * l.length + 1) = nI b) (h2 : σ.1 32 (4 * l.length + 2) = nI k) : Wq 55 (d + 3) 93 [some (.ref 45), some (.ref 24), none, some (.int (nI (4 * l.length))), none, none] [] σ (Qv fun σ' => σ'.2.2 = σ.2.2 ∧ YR t n e sDE (fun x => DE (l ++ [x])) (pEx3 t e a b k p2) σ σ') := by
  have e3 : nI (4 * l.length) + (3 : Int32) = nI (4 * l.length + 3) := nI_add _ 3
  have hin : vp_in (nI (4 * l.length) + (3 : Int32)) 240 := by rw [e3]; exact vp_in_nI (by omega) (by decide)
  have ec : (nI (4 * l.length) + (3 : Int32)).toNatClampNeg = 4 * l.length + 3 := by rw [e3]; exact nI_clamp (by omega)
  refine S_ModuleReader_oneExport_93 (kFine h hf ⟨fun z => absurd z (by decide), fun _ => ?_⟩)
  simp only [sW_id]
  refine kJ h hf (cU h hf) (fun x q r hR hv e1 hR1 hf1 => ?_) fun w pl r σ1 hR hr0 e1 hZ f1 => ?_
  · subst hv
    simp only [sW_okX]
    refine ⟨hin, rfl, (okX_fr.f46E.sI rfl).sI rfl, ?_⟩
    have hp : pEx3 t e a b k p2 = .inl ((a, b, k, x), q) := by unfold pEx3; rw [hR]; rfl
    rw [hp, ec, lN_i]
    refine ⟨⟨?_, fun j y hy => ?_⟩, (hR1.sI rfl).sI rfl, f0_sI (f0_sI hf1 rfl) rfl⟩
    · rw [sI_ss, List.length_append]
      show (okX σ q).1 24 12 + 1 = _
      rw [(okX_fr 24 12 rfl).1, hc]
      exact nI_1 _
    · have e32 : ∀ i, (sI (sI (okX σ q) 32 (4 * l.length + 3) (nI x)) 24 12 ((okX σ q).1 24 12 + 1)).1 32 i = if i = 4 * l.length + 3 then nI x else σ.1 32 i := by
        intro i
        rw [sI_o (by decide), sI3, (okX_fr 32 i rfl).1]
      rw [e32, e32, e32, e32]
      rcases get_snoc hy with ⟨hy, hk⟩ | ⟨rfl, rfl⟩
      · obtain ⟨a1, a2, a3, a4⟩ := hr j y hy
        rw [if_neg (by omega), if_neg (by omega), if_neg (by omega), if_neg (by omega)]
        exact ⟨a1, a2, a3, a4⟩
      · rw [if_neg (by omega), if_neg (by omega), if_neg (by omega), if_pos rfl]
        exact ⟨h0, h1, h2, rfl⟩
  · simp only [sW_eq e1]
    refine ⟨hin, e1, (f1.f46E.sI rfl).sI rfl, ?_⟩
    have hp : pEx3 t e a b k p2 = .inr (w, pl) := by unfold pEx3; rw [hR]; rfl
    rw [hp]
    exact (hZ.sI rfl).sI rfl
theorem c_export {d n e p : Nat} {t : Nat → UInt8} {l : List Ex} {σ : fkS} (h : RX t n e p σ) (hf : σ.1 46 3 = 0) (hl : l.length < 60) (hD : DE l σ) : Dv (d + 3) 55 [.ref 45, .ref 24, .int (nI l.length)] σ (fun σ' => YR t n e sDE (fun x => DE (l ++ [x])) (pEx t e p) σ σ') := by
  obtain ⟨hc, hr⟩ := hD
  have e0 : (4 : Int32) * nI l.length = nI (4 * l.length) := by rw [show (4 : Int32) = nI 4 from rfl, nI_mul]
  refine S_ModuleReader_oneExport ?_
  rw [e0]
  have e1' : nI (4 * l.length) + (1 : Int32) = nI (4 * l.length + 1) := nI_1 _
  have e2' : nI (4 * l.length) + (2 : Int32) = nI (4 * l.length + 2) := nI_add _ 2
  rw [e1', e2', nI_clamp (by omega), nI_clamp (by omega), nI_clamp (by omega)]
  have hin0 : vp_in (nI (4 * l.length)) 240 := vp_in_nI (by omega) (by decide)
  have hin1 : vp_in (nI (4 * l.length + 1)) 240 := vp_in_nI (by omega) (by decide)
  have hin2 : vp_in (nI (4 * l.length + 2)) 240 := vp_in_nI (by omega) (by decide)
  refine kYI (c_name h hf) (fun a q r σ1 hR e1 f1 hv hR1 hf1 => ?_) fun w pl r σ1 hR e1 f1 hZ => ?_
  · obtain ⟨rfl, hab, hat⟩ := hv
    simp only [sW_eq e1]
    refine ⟨hin0, hin1, ?_⟩
    have es : σ1.1 46 1 - nI a.2 = nI a.1 := by rw [hat, nI_sub (by omega), Nat.add_sub_cancel]
    rw [es]
    generalize hτ : sI (sI σ1 32 (4 * l.length) (nI a.1)) 32 (4 * l.length + 1) (nI a.2) = τ
    have g1 : RX t n e q τ := by subst hτ; exact (hR1.sI rfl).sI rfl
    have g2 : τ.1 46 3 = 0 := by subst hτ; exact f0_sI (f0_sI hf1 rfl) rfl
    have g3 : τ.2.2 = σ.2.2 := by subst hτ; exact e1
    have g4 : Fr sDE σ τ := by subst hτ; exact (f1.f46E.sI rfl).sI rfl
    have g5 : rE4 l τ := by subst hτ; exact ((hr.fr f1 fun _ => rfl).out (by omega)).out (by omega)
    have g6 : τ.1 32 (4 * l.length) = nI a.1 := by subst hτ; rw [sI_so (by omega), sI_ss]
    have g7 : τ.1 32 (4 * l.length + 1) = nI a.2 := by subst hτ; exact sI_ss
    have g8 : τ.1 24 12 = nI l.length := by subst hτ; exact (f1 24 12 rfl).1.trans hc
    clear hτ
    refine kFine g1 g2 ⟨fun _ => ?_, fun z => absurd z (by decide)⟩
    simp only [sW_eq g3]
    refine kI g1 g2 (cN g1 g2) (fun k q2 r hR2 hv e2 hR3 hf3 => ?_) fun w pl r σ2 hR2 hr0 e2 hZ f2 => ?_
    · subst hv
      have hk : k < 256 := by have := (nN_l hR2).2.1; have := (t q).toNat_lt; omega
      simp only [sW_eq (show (okX τ q2).2.2 = σ.2.2 from g3)]
      refine ⟨hin2, hin2, ?_⟩
      rw [sI_ss]
      have hp : pEx t e p = if k ≤ 3 then pEx3 t e a.1 a.2 k q2 else .inr (-1, nI q) := by
        unfold pEx
        rw [hR]
        show bR (nN t e q) _ = _
        rw [hR2]
        rfl
      generalize hυ : sI (okX τ q2) 32 (4 * l.length + 2) (nI k) = υ
      have k1 : RX t n e q2 υ := by subst hυ; exact hR3.sI rfl
      have k2 : υ.1 46 3 = 0 := by subst hυ; exact f0_sI hf3 rfl
      have k3 : υ.2.2 = σ.2.2 := by subst hυ; exact g3
      have k4 : Fr sDE σ υ := by subst hυ; exact (g4.tr okX_fr.f46E).sI rfl
      have k5 : rE4 l υ := by subst hυ; exact (g5.fr okX_fr fun _ => rfl).out (by omega)
      have k6 : υ.1 32 (4 * l.length) = nI a.1 := by subst hυ; rw [sI_so (by omega)]; exact g6
      have k7 : υ.1 32 (4 * l.length + 1) = nI a.2 := by subst hυ; rw [sI_so (by omega)]; exact g7
      have k8 : υ.1 32 (4 * l.length + 2) = nI k := by subst hυ; exact sI_ss
      have k9 : υ.1 24 12 = nI l.length := by subst hυ; exact g8
      clear hυ
      refine ⟨fun z => ?_, fun z => ?_⟩
      · have h1 : k ≤ 3 := (nI_leI (b := 3) (by omega) (by decide)).mp z
        rw [if_pos h1] at hp
        refine (w_expt93 (d := d) k1 k2 hl k9 k5 k6 k7 k8).mono fun x σ3 hx => ?_
        obtain ⟨rfl, e3, f3, hu⟩ := Qv_s hx
        refine ⟨e3.trans k3, k4.tr f3, ?_⟩
        rw [hp]
        exact hu
      · have h1 : ¬ k ≤ 3 := fun y => z ((nI_leI (b := 3) (by omega) (by decide)).mpr y)
        rw [if_neg h1] at hp
        refine kFail k1 k2 (by decide) fun σ3 e3 hZ f3 => ?_
        simp only [sW_eq (e3.trans k3)]
        refine (w_expt93z (d := d) hZ hl).mono fun x σ4 hx => ?_
        obtain ⟨rfl, e4, f4, hu⟩ := Qv_s hx
        refine ⟨e4.trans (e3.trans k3), k4.tr (f3.f46E.tr f4), ?_⟩
        have e46 : τ.1 46 1 = nI q := g1.2.2.2.2.2.1
        rw [hp, ← e46]
        exact hu
    · subst hr0
      simp only [sW_eq (e2.trans g3)]
      refine ⟨hin2, hin2, ?_⟩
      rw [sI_ss]
      refine ⟨fun _ => ?_, fun z => absurd (by decide) z⟩
      have hZ1 : ZX t n e w pl (sI σ2 32 (4 * l.length + 2) 0) := hZ.sI rfl
      refine (w_expt93z (d := d) hZ1 hl).mono fun x σ4 hx => ?_
      obtain ⟨rfl, e4, f4, hu⟩ := Qv_s hx
      refine ⟨e4.trans (e2.trans g3), ((g4.tr f2.f46E).sI rfl).tr f4, ?_⟩
      have hp : pEx t e p = .inr (w, pl) := by
        unfold pEx
        rw [hR]
        show bR (nN t e q) _ = _
        rw [hR2]
        rfl
      rw [hp]
      exact hu
  · simp only [sW_eq e1]
    refine ⟨hin0, hin1, ?_⟩
    have hZ1 : ZX t n e w pl (sI (sI σ1 32 (4 * l.length) (σ1.1 46 1 - r)) 32 (4 * l.length + 1) r) := (hZ.sI rfl).sI rfl
    refine zFine hZ1 ⟨fun z => absurd rfl z, fun _ => ?_⟩
    simp only [sW_eq (show (sI (sI σ1 32 (4 * l.length) (σ1.1 46 1 - r)) 32 (4 * l.length + 1) r).2.2 = σ.2.2 from e1)]
    refine ⟨e1, (f1.f46E.sI rfl).sI rfl, ?_⟩
    have hp : pEx t e p = .inr (w, pl) := by
      unfold pEx
      rw [hR]
      rfl
    rw [hp]
    exact hZ1
