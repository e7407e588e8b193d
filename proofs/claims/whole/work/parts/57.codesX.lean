/-! CODES: all of them; the class -/
def pLs (t : Nat → UInt8) (e p : Nat) : Rr (List Nat) := bR (nV t e p) fun m q => pLo t e m [] q
theorem pLo_le {t : Nat → UInt8} {e : Nat} : ∀ (k p : Nat) (L L2 : List Nat) (q : Nat), pLo t e k L p = .inl (L2, q) → p ≤ q
  | 0, p, L, L2, q, h => by
    cases h
    exact Nat.le_refl _
  | k + 1, p, L, L2, q, h => by
    rw [pLo] at h
    obtain ⟨B, q1, h1, h⟩ := bR_inl h
    split at h
    · obtain ⟨ty, q2, h2, h⟩ := bR_inl h
      have := pLo_le k q2 _ _ _ h
      have := nU_q h1
      have := nT_l h2
      omega
    · cases h
theorem pBo_le {t : Nat → UInt8} {e : Nat} : ∀ (f p : Nat) (C C2 : List In) (q : Nat), pBo t e f C p = .inl (C2, q) → p < q ∧ q ≤ e ∧ C.length < C2.length
  | 0, p, C, C2, q, h => by cases h
  | f + 1, p, C, C2, q, h => by
    rw [pBo] at h
    obtain ⟨i, q1, h1, h⟩ := bR_inl h
    obtain ⟨-, -, h2, h3, -⟩ := pI_l h1
    split at h
    · cases h
      rw [List.length_append]
      exact ⟨by omega, h3, by show C.length < C.length + 1; omega⟩
    · have := pBo_le f q1 _ _ _ h
      rw [List.length_append] at this
      have h5 : C.length + 1 < C2.length := this.2.2
      omega
section CDX
variable {t : Nat → UInt8} {n e d : Nat}
theorem c_locals {k p : Nat} {σ : fkS} (hk : k < 60) (h : RX t n e p σ) (hf : σ.1 46 3 = 0) : Dv (d + 3) 29 [.ref 48, .ref 46, .ref 36, .int (nI k)] σ (fun σ' => loK k σ σ' ∧ YR t n e sLo (fun L σ' => σ'.1 39 k = nI L.length ∧ rLo L k σ' ∧ L.length ≤ 50) (pLs t e p) σ σ') := by
  unfold pLs
  refine S_CodeReader_locals (kFine h hf ⟨fun z => absurd z (by decide), fun _ => ?_⟩)
  simp only [sW_id]
  refine kI h hf (cV h hf) (fun m q x hR hv e1 hR1 hf1 => ?_) fun w pl x σ1 hR hr0 e1 hZ f1 => ?_
  · subst hv
    obtain ⟨-, hm, -, -⟩ := nV_l hR
    simp only [sW_okX]
    rw [hR]
    exact w_lo23 hk hm (σ0 := σ) m 0 q [] (okX σ q) (Nat.zero_add _) (by decide) rfl okX_fr.f46Lo (loK.fr okX_fr) (fun j y hy => by cases hy) hR1 hf1
  · subst hr0
    simp only [sW_eq e1]
    refine S_CodeReader_locals_23 ⟨fun _ => ?_, fun z => absurd (by decide) z⟩
    rw [nI_clamp (by omega)]
    refine ⟨vp_in_nI hk (by decide), e1, (loK.fr f1).tr ⟨fun a ha => rfl, fun a ha => sI_so ha⟩, f1.f46Lo.sI rfl, ?_⟩
    rw [hR]
    exact hZ.sI rfl
theorem c_localsz {k : Nat} {w pl : Int32} {σ : fkS} (hk : k < 60) (h : ZX t n e w pl σ) : Dv (d + 3) 29 [.ref 48, .ref 46, .ref 36, .int (nI k)] σ (fun σ' => Fr sLo σ σ' ∧ ZX t n e w pl σ') := by
  refine S_CodeReader_locals (zFine h ⟨fun _ => ?_, fun z => absurd rfl z⟩)
  simp only [sW_id]
  refine S_CodeReader_locals_23 ⟨fun _ => ?_, fun z => absurd (by decide) z⟩
  rw [nI_clamp (by omega)]
  exact ⟨vp_in_nI hk (by decide), rfl, Fr.rf.sI rfl, h.sI rfl⟩
/-- the end is given back -/
theorem k_widen {E p : Nat} {σ : fkS} (h : RX t n e p σ) (hf : σ.1 46 3 = 0) (hE : E ≤ n) (hp : p ≤ e) {P : fkS → Prop}
    (ok : ∀ σ', ¬ p < e → σ'.2.2 = σ.2.2 → RX t n E p σ' → σ'.1 46 3 = 0 → σ' = sI σ 46 2 (nI E) → P σ')
    (ft : ∀ σ1, p < e → σ1.2.2 = σ.2.2 → ZX t n E (-1) (nI p) (sI σ1 46 2 (nI E)) → Fr f46 σ σ1 → P (sI σ1 46 2 (nI E))) : Dv (d + 1) 46 [.ref 46, .int (nI E)] σ P := by
  obtain ⟨h1, h2, h3, h4, h5, h6, h7, -⟩ := id h
  have hw : ∀ σ : fkS, ∀ q, RX t n e q σ → RX t n E q (sI σ 46 2 (nI E)) := by
    intro σ q hh
    obtain ⟨g1, g2, g3, g4, g5, g6, g7, g8⟩ := hh
    refine ⟨g1, fun k hk => ?_, g3, hE, sI_ss, ?_, g7, ?_⟩
    · rw [sI_o (by decide)]
      exact g2 k hk
    · rw [sI_so (by decide)]
      exact g6
    · rw [sI_so (by decide), sI_so (by decide)]
      exact g8
  refine S_Scan_widen ⟨fun z => ?_, fun z => ?_⟩
  · rw [h5, h6] at z
    have hz : ¬ p < e := fun y => nI_ge y (by omega) z
    exact ⟨rfl, ok _ hz rfl (hw σ p h) ((sI_so (by decide)).trans hf) rfl⟩
  · rw [h5, h6] at z
    have hz : p < e := Nat.not_le.mp fun y => z (nI_le y (by omega))
    refine kFail h hf (by decide) fun σ1 e1 hZ f1 => ?_
    simp only [sW_eq e1]
    rw [h6] at hZ
    obtain ⟨⟨q, z1⟩, z2, z3, z4⟩ := hZ
    refine ⟨e1, ft σ1 hz e1 ⟨⟨q, hw σ1 q z1⟩, z2, ?_, ?_⟩ f1⟩
    · rw [sI_so (by decide)]
      exact z3
    · rw [sI_so (by decide)]
      exact z4
theorem z_widen {E : Nat} {w pl : Int32} {σ : fkS} (h : ZX t n e w pl σ) (hE : E ≤ n) {P : fkS → Prop} (ok : ZX t n E w pl (sI σ 46 2 (nI E)) → P (sI σ 46 2 (nI E))) : Dv (d + 1) 46 [.ref 46, .int (nI E)] σ P := by
  have hw : ZX t n E w pl (sI σ 46 2 (nI E)) := by
    obtain ⟨⟨q, g1, g2, g3, g4, g5, g6, g7, g8⟩, z2, z3, z4⟩ := h
    refine ⟨⟨q, g1, fun k hk => ?_, g3, hE, sI_ss, ?_, g7, ?_⟩, z2, ?_, ?_⟩
    · rw [sI_o (by decide)]
      exact g2 k hk
    · rw [sI_so (by decide)]
      exact g6
    · rw [sI_so (by decide), sI_so (by decide)]
      exact g8
    · rw [sI_so (by decide)]
      exact z3
    · rw [sI_so (by decide)]
      exact z4
  refine S_Scan_widen ⟨fun _ => ⟨rfl, ok hw⟩, fun _ => zFail h ?_⟩
  simp only [sW_id]
  exact ⟨rfl, ok hw⟩
def sCS (c j : Nat) : Bool := f46 c j || (Nat.beq c 46 && Nat.beq j 2) || (Nat.beq c 36 && (Nat.beq j 0 || Nat.beq j 5 || Nat.beq j 9)) || Nat.beq c 37 || Nat.beq c 38 || Nat.beq c 39 || Nat.beq c 40 || Nat.beq c 41 || Nat.beq c 42 || Nat.beq c 43 || Nat.beq c 44 || (Nat.beq c 48 && Nat.beq j 1) || Nat.beq c 49
theorem Fr.f46S {σ σ' : fkS} (h : Fr f46 σ σ') : Fr sCS σ σ' := h.mono fun c j h => by unfold sCS; rw [h]; rfl
theorem Fr.loS {σ σ' : fkS} (h : Fr sLo σ σ') : Fr sCS σ σ' := h.mono fun c j h => by
  unfold sLo at h
  unfold sCS
  simp only [Bool.or_eq_true, Bool.and_eq_true] at h ⊢
  grind
theorem Fr.dcS {σ σ' : fkS} (h : Fr sDC σ σ') : Fr sCS σ σ' := h.mono fun c j h => by
  unfold sDC at h
  unfold sCS
  simp only [Bool.or_eq_true, Bool.and_eq_true] at h ⊢
  grind
/-- the rows of codes that are done -/
def rF1 (F : List Fi) (σ : fkS) : Prop := ∀ k x, F[k]? = some x → σ.1 37 k = nI x.2.2.1 ∧ σ.1 38 k = nI x.2.2.2 ∧ σ.1 39 k = nI x.1.length ∧ rLo x.1 k σ
def DF (F : List Fi) (σ : fkS) : Prop := σ.1 36 0 = nI F.length ∧ rF1 F σ
def okF (F : List Fi) : Prop := ∀ (k : Nat) (x : Fi), F[k]? = some x → x.1.length ≤ 50
theorem rF1.keep {F : List Fi} {σ σ' : fkS} (h : rF1 F σ) (hF : okF F) (k37 : ∀ j, j < F.length → σ'.1 37 j = σ.1 37 j) (k38 : ∀ j, j < F.length → σ'.1 38 j = σ.1 38 j) (k39 : ∀ j, j < F.length → σ'.1 39 j = σ.1 39 j) (k40 : ∀ j, j < 50 * F.length → σ'.1 40 j = σ.1 40 j) : rF1 F σ' := by
  intro k x hx
  have hk := (List.getElem?_eq_some_iff.mp hx).1
  obtain ⟨a1, a2, a3, a4⟩ := h k x hx
  refine ⟨(k37 k hk).trans a1, (k38 k hk).trans a2, (k39 k hk).trans a3, fun j y hy => ?_⟩
  have h1 := (List.getElem?_eq_some_iff.mp hy).1
  have h2 := hF k x hx
  rw [k40 _ (by omega)]
  exact a4 j y hy
theorem rZ_l2 {p q B : Nat} (h : rZ t e p = .inl (B, q)) : p < q ∧ q ≤ e ∧ q + B ≤ e := by
  unfold rZ at h
  split at h
  next v q2 hq =>
    obtain ⟨B2, h1, rfl, h2, h3⟩ := rU_nat hq
    split at h
    · cases h
      omega
    · cases h
  · cases h
/-- the rows, whatever stands open -/
def DCw (C : List In) (σ : fkS) : Prop := σ.1 36 5 = nI C.length ∧ σ.1 36 9 = nI (lbs C).length ∧ (∀ k i, C[k]? = some i → rowI C σ k i) ∧ (∀ j B, (lbs C)[j]? = some B → σ.1 44 (3 * j) = nI B) ∧ rSec C σ
theorem DC.w {C : List In} {σ : fkS} (h : DC C σ) : DCw C σ := ⟨h.1, h.2.1, h.2.2.1, h.2.2.2.1, h.2.2.2.2.1⟩
theorem DCw.fr {C : List In} {S : Nat → Nat → Bool} {σ σ' : fkS} (h : DCw C σ) (f : Fr S σ σ') (hs : S 36 5 = false ∧ S 36 9 = false ∧ (∀ k, S 41 k = false) ∧ (∀ k, S 42 k = false) ∧ (∀ k, S 43 k = false) ∧ ∀ k, S 44 k = false) : DCw C σ' := by
  obtain ⟨s1, s2, s3, s4, s5, s6⟩ := hs
  obtain ⟨h1, h2, h3, h4, h5⟩ := h
  refine ⟨(f _ _ s1).1.trans h1, (f _ _ s2).1.trans h2, fun k i hi => ?_, fun j B hB => (f _ _ (s6 _)).1.trans (h4 j B hB), fun k i o x r hi ho hk => (f _ _ (s5 _)).1.trans (h5 k i o x r hi ho hk)⟩
  obtain ⟨a1, a2, a3⟩ := h3 k i hi
  exact ⟨(f _ _ (s3 _)).1.trans a1, (f _ _ (s4 _)).2.1.trans a2, fun hn => (f _ _ (s5 _)).1.trans (a3 hn)⟩
theorem w_cd25 {m : Nat} (hm : m ≤ 60) (he : e ≤ n) {σ0 : fkS} : ∀ (r i p : Nat) (F : List Fi) (C : List In) (σ : fkS), i + r = m → F.length = i → σ.2.2 = σ0.2.2 → Fr sCS σ0 σ → RX t n e p σ → σ.1 46 3 = 0 → DF F σ → okF F → DCw C σ → okO C → sk C C.length = [] → C.length + 8 ≤ p → (lbs C).length + 8 ≤ p → Wq 27 (d + 6) 25 [some (.ref 48), some (.ref 46), some (.ref 36), some (.int (nI e)), some (.int (nI m)), some (.int (nI i)), none, none] [] σ (Qv fun σ' => σ'.2.2 = σ0.2.2 ∧ YR t n e sCS (fun x σ' => DF x.1 σ' ∧ okF x.1 ∧ DCw x.2 σ' ∧ okO x.2 ∧ sk x.2 x.2.length = []) (pCds t e r F C p) σ0 σ')
  | 0, i, p, F, C, σ, hi, hFi, e0, f0, h, hf, hF, hoF, hD, hO, hs, hC, hL => by
    refine S_CodeReader_read_25 ⟨fun _ => ⟨e0, f0, ⟨hF, hoF, hD, hO, hs⟩, h, hf⟩, fun z => absurd (nI_le (by omega) (by omega)) z⟩
  | r + 1, i, p, F, C, σ, hi, hFi, e0, f0, h, hf, hF, hoF, hD, hO, hs, hC, hL => by
    refine S_CodeReader_read_25 ⟨fun z => absurd z (nI_ge (by omega) (by omega)), fun _ => kFine h hf ⟨fun z => absurd z (by decide), fun _ => ?_⟩⟩
    simp only [sW_id]
    have hi60 : i < 60 := by omega
    have hin : vp_in (nI i) 60 := vp_in_nI hi60 (by decide)
    -- behind a fault: 25 ends
    have z25 : ∀ (w pl : Int32) (σ1 : fkS) (x : Int32), pCds t e (r + 1) F C p = .inr (w, pl) → ZX t n e w pl σ1 → σ1.2.2 = σ0.2.2 → Fr sCS σ0 σ1 → Wq 27 (d + 6) 25 [some (.ref 48), some (.ref 46), some (.ref 36), some (.int (nI e)), some (.int (nI m)), some (.int x), none, none] [] σ1 (Qv fun σ' => σ'.2.2 = σ0.2.2 ∧ YR t n e sCS (fun x σ' => DF x.1 σ' ∧ okF x.1 ∧ DCw x.2 σ' ∧ okO x.2 ∧ sk x.2 x.2.length = []) (pCds t e (r + 1) F C p) σ0 σ') := by
      intro w pl σ1 x hR hZ e1 f1
      have fin : (Qv fun σ' => σ'.2.2 = σ0.2.2 ∧ YR t n e sCS (fun x σ' => DF x.1 σ' ∧ okF x.1 ∧ DCw x.2 σ' ∧ okO x.2 ∧ sk x.2 x.2.length = []) (pCds t e (r + 1) F C p) σ0 σ') none σ1 := by
        refine ⟨e1, f1, ?_⟩
        rw [hR]
        exact hZ
      exact S_CodeReader_read_25 ⟨fun _ => fin, fun _ => zFine hZ ⟨fun _ => fin, fun z => absurd rfl z⟩⟩
    -- behind a fault: from 107 on
    have z107 : ∀ (e2 : Nat) (w pl : Int32) (σ1 : fkS), pCds t e (r + 1) F C p = .inr (w, pl) → ZX t n e2 w pl σ1 → σ1.2.2 = σ0.2.2 → Fr sCS σ0 σ1 → Wq 27 (d + 6) 107 [some (.ref 48), some (.ref 46), some (.ref 36), some (.int (nI e)), some (.int (nI m)), some (.int (nI i)), none, none] [] σ1 (Qv fun σ' => σ'.2.2 = σ0.2.2 ∧ YR t n e sCS (fun x σ' => DF x.1 σ' ∧ okF x.1 ∧ DCw x.2 σ' ∧ okO x.2 ∧ sk x.2 x.2.length = []) (pCds t e (r + 1) F C p) σ0 σ') := by
      intro e2 w pl σ1 hR hZ e1 f1
      refine S_CodeReader_read_107 ⟨hin, ?_⟩
      have hZ1 : ∀ a b v1 v2, ZX t n e2 w pl (sI (sI σ1 38 a v1) 36 b v2) := fun _ _ _ _ => (hZ.sI rfl).sI rfl
      refine z_widen (hZ1 _ _ _ _) he fun hZ2 => ?_
      refine z25 w pl _ _ hR hZ2 e1 (((f1.sI rfl).sI rfl).sI rfl)
    -- behind a fault: from 73 on
    have z73 : ∀ (e2 : Nat) (w pl : Int32) (σ1 : fkS) (x : Int32), pCds t e (r + 1) F C p = .inr (w, pl) → ZX t n e2 w pl σ1 → σ1.2.2 = σ0.2.2 → Fr sCS σ0 σ1 → Wq 27 (d + 6) 73 [some (.ref 48), some (.ref 46), some (.ref 36), some (.int (nI e)), some (.int (nI m)), some (.int (nI i)), some (.int (0 : Int32)), some (.int x)] [] σ1 (Qv fun σ' => σ'.2.2 = σ0.2.2 ∧ YR t n e sCS (fun x σ' => DF x.1 σ' ∧ okF x.1 ∧ DCw x.2 σ' ∧ okO x.2 ∧ sk x.2 x.2.length = []) (pCds t e (r + 1) F C p) σ0 σ') := by
      intro e2 w pl σ1 x hR hZ e1 f1
      have fin := z107 e2 w pl σ1 hR hZ e1 f1
      exact S_CodeReader_read_73 ⟨fun _ => fin, fun _ => zFine hZ ⟨fun _ => fin, fun z => absurd rfl z⟩⟩
    refine (c_narrow (d := d + 3) h hf).mono fun x σ1 hx => ?_
    obtain ⟨rfl, e1, hu⟩ := Qv_s hx
    refine ⟨e1, ?_⟩
    simp only [sW_eq e1]
    unfold nX at hu
    cases hZs : rZ t e p with
    | inr y =>
      obtain ⟨w, pl⟩ := y
      rw [hZs] at hu
      obtain ⟨hw, q, hq, rfl⟩ := hu
      have hZ : ZX t n e w pl (ftX σ q w pl) := h.ft hq hw
      have hcd : pCds t e (r + 1) F C p = .inr (w, pl) := by
        rw [pCds]
        unfold pCd
        rw [hZs]
        rfl
      refine (c_localsz (d := d + 2) hi60 hZ).mono fun x σ2 hx => ?_
      obtain ⟨rfl, e2, f2, hZ2⟩ := Qv_s hx
      refine ⟨e2, ?_⟩
      simp only [sW_eq (e2.trans e1)]
      refine ⟨hin, ?_⟩
      exact z73 e w pl _ _ hcd ((hZ2.sI rfl).sI rfl) ((e2.trans e1).trans e0) ((((f0.tr ftX_fr.f46S).tr f2.loS).sI rfl).sI rfl)
    | inl y =>
      obtain ⟨B, q⟩ := y
      rw [hZs] at hu
      obtain ⟨hqB, rfl⟩ := hu
      obtain ⟨hz1, hz2, -⟩ := rZ_l2 hZs
      have h7 := h.2.2.2.2.2.2
      have hn4 := h.2.2.1
      -- the reader within the code
      have hR1 : RX t n (q + B) q (sI (okX σ q) 46 2 (nI (q + B))) := by
        obtain ⟨g1, g2, g3, g4, g5, g6, g7, g8⟩ := h
        refine ⟨g1, fun k hk => ?_, g3, by omega, sI_ss, ?_, by omega, ?_⟩
        · rw [sI_o (by decide)]
          exact g2 k hk
        · rw [sI_so (by decide)]
          exact sI_ss
        · rw [sI_so (by decide), sI_so (by decide)]
          exact g8
      have hf1 : (sI (okX σ q) 46 2 (nI (q + B))).1 46 3 = 0 := (sI_so (by decide)).trans hf
      have f1 : Fr sCS σ0 (sI (okX σ q) 46 2 (nI (q + B))) := (f0.tr okX_fr.f46S).sI rfl
      have hF1 : DF F (sI (okX σ q) 46 2 (nI (q + B))) := hF
      have hD1 : DCw C (sI (okX σ q) 46 2 (nI (q + B))) := hD
      generalize sI (okX σ q) 46 2 (nI (q + B)) = τ at e1 hR1 hf1 f1 hF1 hD1 ⊢
      have hcd : pCds t e (r + 1) F C p = bR (pCd2 t (q + B) C q) fun x q => pCds t e r (F ++ [x.1]) x.2 q := by
        rw [pCds]
        unfold pCd
        rw [hZs]
        rfl
      refine (c_locals (d := d + 2) (k := i) hi60 hR1 hf1).mono fun x σ2 hx => ?_
      obtain ⟨rfl, e2, lk2, f2, hu⟩ := Qv_s hx
      refine ⟨e2, ?_⟩
      simp only [sW_eq (e2.trans e1)]
      refine ⟨hin, ?_⟩
      rw [nI_clamp (by omega)]
      cases hLo : pLs t (q + B) q with
      | inr y =>
        obtain ⟨w, pl⟩ := y
        rw [hLo] at hu
        have hcd2 : pCds t e (r + 1) F C p = .inr (w, pl) := by
          rw [hcd]
          unfold pCd2
          unfold pLs at hLo
          cases hV : nV t (q + B) q with
          | inl y =>
            obtain ⟨m2, q1⟩ := y
            rw [hV] at hLo
            show bR (bR (pLo t (q + B) m2 [] q1) _) _ = _
            have hLo2 : pLo t (q + B) m2 [] q1 = .inr (w, pl) := hLo
            rw [hLo2]
            rfl
          | inr y =>
            rw [hV] at hLo
            cases hLo
            rfl
        exact z73 (q + B) w pl _ _ hcd2 ((hu.sI rfl).sI rfl) ((e2.trans e1).trans e0) (((f1.tr f2.loS).sI rfl).sI rfl)
      | inl y =>
        obtain ⟨L, q2⟩ := y
        rw [hLo] at hu
        obtain ⟨⟨u1, u2, u3⟩, hR2, hf2⟩ := hu
        have hcd2 : pCd2 t (q + B) C q = pCd3 t (q + B) C L q2 := by
          unfold pCd2
          obtain ⟨m2, q1, hV, hV2⟩ := bR_inl hLo
          rw [hV]
          show bR (pLo t (q + B) m2 [] q1) _ = _
          rw [hV2]
          rfl
        have hq2 : q ≤ q2 := by
          obtain ⟨m2, q1, hV, hV2⟩ := bR_inl hLo
          have := pLo_le _ _ _ _ _ hV2
          have := (nV_l hV).2.2
          omega
        rw [hcd2] at hcd
        generalize hυ : sI (sI σ2 37 i (σ2.1 36 5)) 48 1 (0 : Int32) = υ
        have k1 : RX t n (q + B) q2 υ := by subst hυ; exact (hR2.sI rfl).sI rfl
        have k2 : υ.1 46 3 = 0 := by subst hυ; exact f0_sI (f0_sI hf2 rfl) rfl
        have k3 : υ.2.2 = σ0.2.2 := by subst hυ; exact (e2.trans e1).trans e0
        have k4 : Fr sCS σ0 υ := by subst hυ; exact ((f1.tr f2.loS).sI rfl).sI rfl
        have c5 : ∀ j, σ2.1 36 j = τ.1 36 j := fun j => (f2 36 j rfl).1
        have k5 : DC C υ := by
          have d2 : DCw C σ2 := hD1.fr f2 ⟨rfl, rfl, fun _ => rfl, fun _ => rfl, fun _ => rfl, fun _ => rfl⟩
          subst hυ
          obtain ⟨g1, g2, g3, g4, g5⟩ := d2
          refine ⟨g1, g2, g3, g4, g5, ?_, ?_⟩
          · rw [hs]
            exact sI_ss
          · rw [hs]
            intro k a ha
            cases ha
        have k6 : rF1 F υ := by
          subst hυ
          refine hF1.2.keep hoF (fun j hj => ?_) (fun j hj => ?_) (fun j hj => ?_) fun j hj => ?_
          · rw [sI_o (by decide), sI_so (by omega)]
            exact (f2 37 j rfl).1
          · exact (f2 38 j rfl).1
          · exact lk2.2 j (by omega)
          · exact lk2.1 j (by omega)
        have k7 : υ.1 37 i = nI C.length := by
          subst hυ
          rw [sI_o (by decide), sI_ss, c5]
          exact hD1.1
        have k8 : υ.1 39 i = nI L.length := by subst hυ; exact u1
        have k9 : rLo L i υ := by subst hυ; exact fun j y hy => u2 j y hy
        have k0 : υ.1 36 0 = nI i := by
          subst hυ
          rw [← hFi]
          exact (c5 0).trans hF1.1
        clear hυ
        refine w_body73 (d := d) (σ0 := υ) (R := pBo t (q + B) 4000 C q2) (fun C2 q3 σ3 hB e3 f3 hD3 hR3 hf3 hs3 hO3 hC3 => ?_) (fun w pl σ3 hB e3 f3 hZ3 => ?_) 4000 0 q2 C υ (by omega) (by omega) rfl rfl Fr.rf k1 k2 k5 hO (by omega) (by omega) (by rw [hs]; exact Nat.zero_le _)
        · refine S_CodeReader_read_107 ⟨hin, ?_⟩
          have hle := pBo_le _ _ _ _ _ hB
          have hq3 : q3 ≤ q + B := hle.2.1
          have hC2 : 0 < C2.length := by omega
          rw [hD3.1, (f3 36 0 rfl).1, k0]
          have ee : (if (0 : Int32) < (nI C2.length - (1 : Int32)) then (nI C2.length - (1 : Int32)) else (0 : Int32)) = nI (C2.length - 1) := by
            have h1 : nI C2.length - (1 : Int32) = nI (C2.length - 1) := nI_sub (b := 1) (by omega)
            rw [h1]
            have hq4 := hR3.2.2.2.2.2.2
            by_cases hz : 0 < C2.length - 1
            · have hc : (0 : Int32) < nI (C2.length - 1) := nI_lt (a := 0) hz (by omega)
              rw [if_pos hc]
            · have hc : ¬ (0 : Int32) < nI (C2.length - 1) := nI_nlt (a := 0) (b := C2.length - 1) (by omega) (by decide)
              rw [if_neg hc, show C2.length - 1 = 0 by omega]
              rfl
          rw [ee, nI_clamp (by omega), show nI i + (1 : Int32) = nI (i + 1) from nI_1 i]
          generalize hω : sI (sI σ3 38 i (nI (C2.length - 1))) 36 0 (nI (i + 1)) = ω
          have m1 : RX t n (q + B) q3 ω := by subst hω; exact (hR3.sI rfl).sI rfl
          have m2 : ω.1 46 3 = 0 := by subst hω; exact f0_sI (f0_sI hf3 rfl) rfl
          have m3 : ω.2.2 = σ0.2.2 := by subst hω; exact e3.trans k3
          have m0 : ω.2.2 = σ3.2.2 := by subst hω; rfl
          have m4 : Fr sCS σ0 ω := by subst hω; exact (k4.tr f3.dcS |>.sI rfl).sI rfl
          have m5 : DCw C2 ω := by
            subst hω
            obtain ⟨g1, g2, g3, g4, g5, g6, g7⟩ := hD3
            exact ⟨g1, g2, g3, g4, g5⟩
          have m6 : rF1 F ω := by
            subst hω
            refine k6.keep hoF (fun j hj => (f3 37 j rfl).1) (fun j hj => ?_) (fun j hj => (f3 39 j rfl).1) fun j hj => (f3 40 j rfl).1
            rw [sI_o (by decide), sI_so (by omega)]
            exact (f3 38 j rfl).1
          have m7 : ω.1 36 0 = nI (i + 1) := by subst hω; exact sI_ss
          have m8 : ω.1 37 i = nI C.length := by subst hω; exact (f3 37 i rfl).1.trans k7
          have m9 : ω.1 38 i = nI (C2.length - 1) := by subst hω; rw [sI_o (by decide), sI_ss]
          have m10 : ω.1 39 i = nI L.length := by subst hω; exact (f3 39 i rfl).1.trans k8
          have m11 : rLo L i ω := by subst hω; exact fun j y hy => (f3 40 _ rfl).1.trans (k9 j y hy)
          clear hω
          have hp3 : pCd3 t (q + B) C L q2 = if q3 < q + B then .inr (-1, nI q3) else .inl (((L, q2, C.length, C2.length - 1), C2), q3) := by
            unfold pCd3
            rw [hB]
            rfl
          refine k_widen m1 m2 he hq3 (fun σ4 hlt e4 hR4 hf4 hσ4 => ?_) fun σ4 hlt e4 hZ4 f4 => ?_
          · rw [if_neg hlt] at hp3
            rw [hp3] at hcd
            simp only [sW_eq (show σ4.2.2 = σ3.2.2 from e4.trans m0)]
            rw [hcd]
            simp only [bR]
            subst hσ4
            refine w_cd25 hm he r (i + 1) q3 (F ++ [(L, q2, C.length, C2.length - 1)]) C2 _ (by omega) (by rw [List.length_append, hFi]; rfl) m3 (m4.sI rfl) hR4 hf4 ⟨?_, ?_⟩ ?_ ?_ hO3 hs3 hC3.1 hC3.2
            · rw [List.length_append, hFi]
              exact m7
            · intro k x hx
              rcases get_snoc hx with ⟨hx, hk⟩ | ⟨rfl, rfl⟩
              · exact m6 k x hx
              · rw [hFi]
                exact ⟨m8, m9, m10, m11⟩
            · intro k x hx
              rcases get_snoc hx with ⟨hx, hk⟩ | ⟨rfl, rfl⟩
              · exact hoF k x hx
              · exact u3
            · exact m5
          · rw [if_pos hlt] at hp3
            rw [hp3] at hcd
            rw [sW_eq (show (sI σ4 46 2 (nI e)).2.2 = σ3.2.2 from e4.trans m0)]
            exact z25 (-1) (nI q3) _ _ hcd hZ4 (e4.trans m3) ((m4.tr f4.f46S).sI rfl)
        · have hp3 : pCd3 t (q + B) C L q2 = .inr (w, pl) := by
            unfold pCd3
            rw [hB]
            rfl
          rw [hp3] at hcd
          exact z107 (q + B) w pl σ3 hcd hZ3 (e3.trans k3) (k4.tr f3.dcS)
def sCX (x : List Fi × List In) (σ : fkS) : Prop := DF x.1 σ ∧ okF x.1 ∧ DCw x.2 σ ∧ okO x.2 ∧ sk x.2 x.2.length = []
/-- all CODES -/
theorem c_codes {p : Nat} {σ : fkS} (he : e ≤ n) (hp : 8 ≤ p) (h : RX t n e p σ) (hf : σ.1 46 3 = 0) (h0 : σ.1 36 0 = 0) (h5 : σ.1 36 5 = 0) (h9 : σ.1 36 9 = 0) : Dv (d + 6) 27 [.ref 48, .ref 46, .ref 36] σ (fun σ' => YR t n e sCS sCX (pCS t e p) σ σ') := by
  refine S_CodeReader_read (kFine h hf ⟨fun z => absurd z (by decide), fun _ => ?_⟩)
  simp only [sW_id]
  rw [h.2.2.2.2.1]
  refine kI h hf (cV h hf) (fun m q x hR hv e1 hR1 hf1 => ?_) fun w pl x σ1 hR hr0 e1 hZ f1 => ?_
  · subst hv
    obtain ⟨-, hm, hq1, hq2⟩ := nV_l hR
    simp only [sW_okX]
    have hp2 : pCS t e p = pCds t e m [] [] q := by
      unfold pCS
      rw [hR]
      rfl
    rw [hp2]
    have k0 : (okX σ q).1 36 0 = 0 := h0
    have k5 : (okX σ q).1 36 5 = 0 := h5
    have k9 : (okX σ q).1 36 9 = 0 := h9
    exact w_cd25 (d := d) hm he (σ0 := σ) m 0 q [] [] (okX σ q) (Nat.zero_add _) rfl rfl okX_fr.f46S hR1 hf1 ⟨k0, fun k x hx => by cases hx⟩ (fun k x hx => by cases hx) ⟨k5, k9, fun (k : Nat) (i : In) (hi : ([] : List In)[k]? = some i) => absurd hi (by simp), fun (j B : Nat) (hB : (lbs [])[j]? = some B) => absurd hB (by simp [lbs]), fun k i o x r (hi : ([] : List In)[k]? = some i) => absurd hi (by simp)⟩ (fun o x hx => by cases hx) rfl (by show 0 + 8 ≤ q; omega) (by show 0 + 8 ≤ q; omega)
  · subst hr0
    simp only [sW_eq e1]
    refine S_CodeReader_read_25 ⟨fun _ => ⟨e1, f1.f46S, ?_⟩, fun z => absurd (by decide) z⟩
    unfold pCS
    rw [hR]
    exact hZ
end CDX
