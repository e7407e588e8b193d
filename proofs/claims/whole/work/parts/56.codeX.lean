/-! CODES: LOCALS, all CODES; the class -/
def pLo (t : Nat → UInt8) (e : Nat) : Nat → List Nat → Nat → Rr (List Nat)
  | 0, L, p => .inl (L, p)
  | k + 1, L, p => bR (nU t e p) fun B q => if L.length + B ≤ 50 then bR (nT t e q) fun ty q2 => pLo t e k (L ++ List.replicate B ty) q2 else .inr (-2, nI p)
abbrev Fi : Type := List Nat × Nat × Nat × Nat
def pCd3 (t : Nat → UInt8) (e2 : Nat) (C : List In) (L : List Nat) (q2 : Nat) : Rr (Fi × List In) := bR (pBo t e2 4000 C q2) fun C2 q3 => if q3 < e2 then .inr (-1, nI q3) else .inl (((L, q2, C.length, C2.length - 1), C2), q3)
def pCd2 (t : Nat → UInt8) (e2 : Nat) (C : List In) (q : Nat) : Rr (Fi × List In) := bR (nV t e2 q) fun m q1 => bR (pLo t e2 m [] q1) fun L q2 => pCd3 t e2 C L q2
def pCd (t : Nat → UInt8) (e : Nat) (C : List In) (p : Nat) : Rr (Fi × List In) := bR (rZ t e p) fun B q => pCd2 t (q + B) C q
def pCds (t : Nat → UInt8) (e : Nat) : Nat → List Fi → List In → Nat → Rr (List Fi × List In)
  | 0, F, C, p => .inl ((F, C), p)
  | k + 1, F, C, p => bR (pCd t e C p) fun x q => pCds t e k (F ++ [x.1]) x.2 q
def pCS (t : Nat → UInt8) (e p : Nat) : Rr (List Fi × List In) := bR (nV t e p) fun m q => pCds t e m [] [] q
def rLo (L : List Nat) (k : Nat) (σ : fkS) : Prop := ∀ j y, L[j]? = some y → σ.1 40 (50 * k + j) = nI y
def sLo (c j : Nat) : Bool := f46 c j || Nat.beq c 39 || Nat.beq c 40
theorem Fr.f46Lo {σ σ' : fkS} (h : Fr f46 σ σ') : Fr sLo σ σ' := h.mono fun c j h => by unfold sLo; rw [h]; rfl
theorem byT {v : Nat} (h : isT v) : (nI v).toInt8.toInt32.toInt8.toInt32 = nI v := by rcases h with rfl | rfl <;> decide
/-- what stays of the rows of locals before code k -/
def loK (k : Nat) (σ σ' : fkS) : Prop := (∀ j, j < 50 * k → σ'.1 40 j = σ.1 40 j) ∧ ∀ j, j ≠ k → σ'.1 39 j = σ.1 39 j
theorem loK.rf {k : Nat} {σ : fkS} : loK k σ σ := ⟨fun _ _ => rfl, fun _ _ => rfl⟩
theorem loK.tr {k : Nat} {σ σ1 σ2 : fkS} (h : loK k σ σ1) (h2 : loK k σ1 σ2) : loK k σ σ2 := ⟨fun j hj => (h2.1 j hj).trans (h.1 j hj), fun j hj => (h2.2 j hj).trans (h.2 j hj)⟩
theorem loK.fr {k : Nat} {σ σ' : fkS} (h : Fr f46 σ σ') : loK k σ σ' := ⟨fun j _ => (h 40 j rfl).1, fun j _ => (h 39 j rfl).1⟩
section LOCX
variable {t : Nat → UInt8} {n e d : Nat}
theorem w_lo90 {k m i B ty : Nat} (hk : k < 60) (hB : B < 2 ^ 32) (hty : isT ty) {q2 : Nat} {Q : Option Value → fkS → Prop} {σ0 : fkS}
    (L0 : List Nat) (kok : ∀ σ', σ'.2.2 = σ0.2.2 → Fr sLo σ0 σ' → loK k σ0 σ' → rLo (L0 ++ List.replicate B ty) k σ' → RX t n e q2 σ' → σ'.1 46 3 = 0 → Wq 29 (d + 3) 23 [none, some (.ref 46), some (.ref 36), some (.int (nI k)), some (.int (nI m)), some (.int (nI (L0.length + B))), some (.int (nI i + (1 : Int32))), none, none, none, none, none] [] σ' Q) (hL : L0.length + B ≤ 50) :
    ∀ (r j : Nat) (σ : fkS), j + r = B → σ.2.2 = σ0.2.2 → Fr sLo σ0 σ → loK k σ0 σ → rLo (L0 ++ List.replicate j ty) k σ → RX t n e q2 σ → σ.1 46 3 = 0 → Wq 29 (d + 3) 90 [none, some (.ref 46), some (.ref 36), some (.int (nI k)), some (.int (nI m)), some (.int (nI (L0.length + j))), some (.int (nI i)), none, some (.long (lN B)), none, some (.int (nI ty)), some (.int (nI j))] [] σ Q
  | 0, j, σ, hj, e0, f0, k0, hl, h, hf => by
    have hjB : j = B := by omega
    subst hjB
    have hc : 0 ≤ lg_cmp (nI j).toInt64 (lN j) := by
      rw [nI_l (by omega)]
      unfold lg_cmp
      rw [if_neg (by rw [gt_iff_lt]; exact Int64.not_lt.mpr (Int64.le_refl _)), if_pos rfl]
      decide
    refine S_CodeReader_locals_90 ⟨fun _ => ?_, fun z => absurd hc z⟩
    exact kok σ e0 f0 k0 hl h hf
  | r + 1, j, σ, hj, e0, f0, k0, hl, h, hf => by
    have hc : ¬ 0 ≤ lg_cmp (nI j).toInt64 (lN B) := by
      rw [nI_l (by omega)]
      have h1 : lN j < lN B := Int64.not_le.mp fun z => by have := (pk_lLE (by omega) (by omega)).mp z; omega
      unfold lg_cmp
      rw [if_neg (by rw [gt_iff_lt]; exact Int64.not_lt.mpr (Int64.le_of_lt h1)), if_neg (fun z => by rw [z] at h1; exact Int64.lt_irrefl h1)]
      decide
    refine S_CodeReader_locals_90 ⟨fun z => absurd z hc, fun _ => kFine h hf ⟨fun z => absurd z (by decide), fun _ => ?_⟩⟩
    have ei : nI k * (50 : Int32) + nI (L0.length + j) = nI (50 * k + (L0.length + j)) := by rw [show (50 : Int32) = nI 50 from rfl, nI_mul, nI_add, Nat.mul_comm]
    simp only [sW_id]
    rw [ei, nI_clamp (by omega), byT hty]
    refine ⟨vp_in_nI (by omega) (by decide), ?_⟩
    rw [show nI (L0.length + j) + (1 : Int32) = nI (L0.length + (j + 1)) from nI_1 _, show nI j + (1 : Int32) = nI (j + 1) from nI_1 _]
    refine w_lo90 hk hB hty L0 kok hL r (j + 1) _ (by omega) e0 (f0.sI rfl) (k0.tr ⟨fun a ha => sI_so (by omega), fun a ha => rfl⟩) ?_ (h.sI rfl) (f0_sI hf rfl)
    intro a y hy
    rw [List.replicate_succ', ← List.append_assoc] at hy
    rw [sI3]
    rcases get_snoc hy with ⟨hy, hlt⟩ | ⟨ha, rfl⟩
    · rw [List.length_append, List.length_replicate] at hlt
      rw [if_neg (by omega)]
      exact hl a y hy
    · rw [List.length_append, List.length_replicate] at ha
      rw [if_pos (by omega)]
theorem w_lo23 {k m : Nat} (hk : k < 60) (hm : m ≤ 60) {σ0 : fkS} : ∀ (r i p : Nat) (L : List Nat) (σ : fkS), i + r = m → L.length ≤ 50 → σ.2.2 = σ0.2.2 → Fr sLo σ0 σ → loK k σ0 σ → rLo L k σ → RX t n e p σ → σ.1 46 3 = 0 → Wq 29 (d + 3) 23 [none, some (.ref 46), some (.ref 36), some (.int (nI k)), some (.int (nI m)), some (.int (nI L.length)), some (.int (nI i)), none, none, none, none, none] [] σ (Qv fun σ' => σ'.2.2 = σ0.2.2 ∧ loK k σ0 σ' ∧ YR t n e sLo (fun L σ' => σ'.1 39 k = nI L.length ∧ rLo L k σ' ∧ L.length ≤ 50) (pLo t e r L p) σ0 σ')
  | 0, i, p, L, σ, hi, hL, e0, f0, k0, hl, h, hf => by
    refine S_CodeReader_locals_23 ⟨fun _ => ?_, fun z => absurd (nI_le (by omega) (by omega)) z⟩
    rw [nI_clamp (by omega)]
    refine ⟨vp_in_nI hk (by decide), e0, k0.tr ⟨fun a ha => rfl, fun a ha => sI_so ha⟩, f0.sI rfl, ?_⟩
    exact ⟨⟨sI_ss, fun j y hy => hl j y hy, hL⟩, h.sI rfl, f0_sI hf rfl⟩
  | r + 1, i, p, L, σ, hi, hL, e0, f0, k0, hl, h, hf => by
    refine S_CodeReader_locals_23 ⟨fun z => absurd z (nI_ge (by omega) (by omega)), fun _ => kFine h hf ⟨fun z => absurd z (by decide), fun _ => ?_⟩⟩
    simp only [sW_id]
    -- behind a fault: out of both loops
    have zend : ∀ (w pl : Int32) (σ1 : fkS) (i : Int32), pLo t e (r + 1) L p = .inr (w, pl) → ZX t n e w pl σ1 → σ1.2.2 = σ0.2.2 → Fr sLo σ0 σ1 → loK k σ0 σ1 → Wq 29 (d + 3) 23 [none, some (.ref 46), some (.ref 36), some (.int (nI k)), some (.int (nI m)), some (.int (nI L.length)), some (.int i), none, none, none, none, none] [] σ1 (Qv fun σ' => σ'.2.2 = σ0.2.2 ∧ loK k σ0 σ' ∧ YR t n e sLo (fun L σ' => σ'.1 39 k = nI L.length ∧ rLo L k σ' ∧ L.length ≤ 50) (pLo t e (r + 1) L p) σ0 σ') := by
      intro w pl σ1 i hR hZ e1 f1 k1
      have fin : vp_in (nI k) 60 ∧ (Qv fun σ' => σ'.2.2 = σ0.2.2 ∧ loK k σ0 σ' ∧ YR t n e sLo (fun L σ' => σ'.1 39 k = nI L.length ∧ rLo L k σ' ∧ L.length ≤ 50) (pLo t e (r + 1) L p) σ0 σ') none (sI σ1 39 (nI k).toNatClampNeg (nI L.length)) := by
        rw [nI_clamp (by omega)]
        refine ⟨vp_in_nI hk (by decide), e1, k1.tr ⟨fun a ha => rfl, fun a ha => sI_so ha⟩, f1.sI rfl, ?_⟩
        rw [hR]
        exact hZ.sI rfl
      exact S_CodeReader_locals_23 ⟨fun _ => fin, fun _ => zFine hZ ⟨fun _ => fin, fun z => absurd rfl z⟩⟩
    have zend90 : ∀ (w pl : Int32) (σ1 : fkS) (x4 : Int64) (x : Int32), pLo t e (r + 1) L p = .inr (w, pl) → ZX t n e w pl σ1 → σ1.2.2 = σ0.2.2 → Fr sLo σ0 σ1 → loK k σ0 σ1 → Wq 29 (d + 3) 90 [none, some (.ref 46), some (.ref 36), some (.int (nI k)), some (.int (nI m)), some (.int (nI L.length)), some (.int (nI i)), none, some (.long x4), none, some (.int x), some (.int (0 : Int32))] [] σ1 (Qv fun σ' => σ'.2.2 = σ0.2.2 ∧ loK k σ0 σ' ∧ YR t n e sLo (fun L σ' => σ'.1 39 k = nI L.length ∧ rLo L k σ' ∧ L.length ≤ 50) (pLo t e (r + 1) L p) σ0 σ') := by
      intro w pl σ1 x4 x hR hZ e1 f1 k1
      have fin := zend w pl σ1 (nI i + 1) hR hZ e1 f1 k1
      exact S_CodeReader_locals_90 ⟨fun _ => fin, fun _ => zFine hZ ⟨fun _ => fin, fun z => absurd rfl z⟩⟩
    have hp1 : σ.1 46 1 = nI p := h.2.2.2.2.2.1
    refine kJ h hf (cU h hf) (fun B q x hR hv e1 hR1 hf1 => ?_) fun w pl x σ1 hR hr0 e1 hZ f1 => ?_
    · subst hv
      obtain ⟨-, hB, hq1, hq2⟩ := nU_l hR
      simp only [sW_okX]
      rw [nI_l (by omega), lN_add]
      have hlo : pLo t e (r + 1) L p = if L.length + B ≤ 50 then bR (nT t e q) fun ty q2 => pLo t e r (L ++ List.replicate B ty) q2 else .inr (-2, nI p) := by rw [pLo, hR]; rfl
      have hcm : lg_cmp (lN (L.length + B)) (50 : Int64) ≤ 0 ↔ L.length + B ≤ 50 := by
        rw [lg_cmp_le]
        exact pk_lLE (b := 50) (by omega) (by decide)
      refine ⟨fun z => ?_, fun z => ?_⟩
      · have hz := hcm.mp z
        rw [if_pos hz] at hlo
        refine kFine hR1 hf1 ⟨fun z => absurd z (by decide), fun _ => ?_⟩
        simp only [sW_okX]
        refine kI hR1 hf1 (cT hR1 hf1) (fun ty q2 x hR2 hv e2 hR3 hf3 => ?_) fun w pl x σ2 hR2 _ e2 hZ f2 => ?_
        · subst hv
          have hty := (nT_l hR2).2.1
          rw [okX_ok] at hR3 hf3 ⊢
          simp only [sW_okX]
          rw [hR2] at hlo
          refine w_lo90 (d := d) (q2 := q2) hk hB hty (σ0 := σ0) L (fun σ' g1 g2 g3 g4 g5 g6 => ?_) hz B 0 (okX σ q2) (Nat.zero_add _) e0 (f0.tr okX_fr.f46Lo) (k0.tr (loK.fr okX_fr)) ?_ hR3 hf3
          · have hlen : (L ++ List.replicate B ty).length = L.length + B := by rw [List.length_append, List.length_replicate]
            have ih := w_lo23 hk hm (σ0 := σ0) r (i + 1) q2 (L ++ List.replicate B ty) σ' (by omega) (by rw [hlen]; exact hz) g1 g2 g3 g4 g5 g6
            rw [hlen, show nI (i + 1) = nI i + 1 from nI_succ i] at ih
            rw [hlo]
            exact ih
          · rw [List.replicate_zero, List.append_nil]
            exact hl
        · rw [hR2] at hlo
          simp only [sW_eq (show σ2.2.2 = σ.2.2 from e2)]
          exact zend90 w pl σ2 _ _ hlo hZ (e2.trans e0) (f0.tr (okX_fr.f46Lo.tr f2.f46Lo)) (k0.tr ((loK.fr okX_fr).tr (loK.fr f2)))
      · rw [if_neg (fun y => z (hcm.mpr y))] at hlo
        refine kFail hR1 hf1 (by decide) fun σ2 e2 hZ f2 => ?_
        simp only [sW_eq (show σ2.2.2 = σ.2.2 from e2)]
        rw [hp1] at hZ
        refine zFine hZ ⟨fun _ => ?_, fun z => absurd rfl z⟩
        simp only [sW_eq (show σ2.2.2 = σ.2.2 from e2)]
        exact zend90 _ _ σ2 _ _ hlo hZ (e2.trans e0) (f0.tr (okX_fr.f46Lo.tr f2.f46Lo)) (k0.tr ((loK.fr okX_fr).tr (loK.fr f2)))
    · subst hr0
      simp only [sW_eq e1]
      have hlo : pLo t e (r + 1) L p = .inr (w, pl) := by rw [pLo, hR]; rfl
      have hgo : ∀ σ2 : fkS, ZX t n e w pl σ2 → σ2.2.2 = σ.2.2 → Fr f46 σ σ2 → Di (d + 2) 20 [.ref 46] σ2 (fun x11 σ10 => ((x11 = 0 → Wq 29 (d + 3) 90 [none, some (.ref 46), some (.ref 36), some (.int (nI k)), some (.int (nI m)), some (.int (nI L.length)), some (.int (nI i)), none, some (.long 0), none, some (.int (0 : Int32)), some (.int (0 : Int32))] [] (sW σ10 σ) (Qv fun σ' => σ'.2.2 = σ0.2.2 ∧ loK k σ0 σ' ∧ YR t n e sLo (fun L σ' => σ'.1 39 k = nI L.length ∧ rLo L k σ' ∧ L.length ≤ 50) (pLo t e (r + 1) L p) σ0 σ')) ∧ (¬ x11 = 0 → (Di (d + 2) 30 [.ref 46] (sW σ10 σ) (fun x13 σ12 => Wq 29 (d + 3) 90 [none, some (.ref 46), some (.ref 36), some (.int (nI k)), some (.int (nI m)), some (.int (nI L.length)), some (.int (nI i)), none, some (.long 0), none, some (.int x13), some (.int (0 : Int32))] [] (sW σ12 σ) (Qv fun σ' => σ'.2.2 = σ0.2.2 ∧ loK k σ0 σ' ∧ YR t n e sLo (fun L σ' => σ'.1 39 k = nI L.length ∧ rLo L k σ' ∧ L.length ≤ 50) (pLo t e (r + 1) L p) σ0 σ')))))) := by
        intro σ2 hZ2 e2 f2
        refine zFine hZ2 ⟨fun _ => ?_, fun z => absurd rfl z⟩
        simp only [sW_eq e2]
        exact zend90 w pl σ2 _ _ hlo hZ2 (e2.trans e0) (f0.tr f2.f46Lo) (k0.tr (loK.fr f2))
      refine ⟨fun _ => hgo σ1 hZ e1 f1, fun _ => zFail hZ ?_⟩
      simp only [sW_eq e1]
      exact hgo σ1 hZ e1 f1
end LOCX
