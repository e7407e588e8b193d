/-! READING OF A WHOLE MODULE: the class, from its beginning -/
section RDXX
variable {t : Nat → UInt8} {n e d p q : Nat} {σ : fkS} {m : Md}
theorem w_rd30z {w pl : Int32} {v4 : Int32} (h : ZX t n n w pl σ) (hv : v4 ≤ 8 ∧ ¬ v4 < 0) : Wq 16 (d + 7) 30 [some (.ref 45), some (.ref 24), none, some (.int (nI n)), some (.int v4), none] [] σ (Qv fun σ' => σ' = sI σ 45 2 0) := by
  have hZ2 : ZX t n n w pl (sI σ 45 2 0) := h.sI rfl
  have fin : Wq 16 (d + 7) 76 [some (.ref 45), some (.ref 24), none, some (.int (nI n)), some (.int (0 : Int32)), none] [] (sI σ 45 2 0) (Qv fun σ' => σ' = sI σ 45 2 0) := w_rd76z hZ2
  refine S_ModuleReader_read_30 ⟨fun _ => fin, fun _ => zFine h ⟨fun _ => ?_, fun z => absurd rfl z⟩⟩
  simp only [sW_id]
  exact fin
theorem w_rd30 (σ0 : fkS) : ∀ (r k p : Nat) (σ : fkS), k + r = 8 → k = p → Fr sRY σ0 σ → σ.2.2 = σ0.2.2 → RX t n n p σ → σ.1 46 3 = 0 → DX md0 σ → Wq 16 (d + 7) 30 [some (.ref 45), some (.ref 24), none, some (.int (nI n)), some (.int (nI k)), none] [] σ (Qv fun σ' => σ'.2.2 = σ0.2.2 ∧ YR t n n sRY DX (bR (pHd t n r k p) fun _ p => bR (pMd t n 4000 0 md0 p) fun m q => pEnd n m q) σ0 σ')
  | 0, k, p, σ, hk, hkp, f0, e0, h, hf, hD => by
    have hk8 : k = 8 := by omega
    have go : Wq 16 (d + 7) 76 [some (.ref 45), some (.ref 24), none, some (.int (nI n)), some (.int (0 : Int32)), none] [] (sI σ 45 2 (0 : Int32)) (Qv fun σ' => σ'.2.2 = σ0.2.2 ∧ YR t n n sRY DX (bR (pHd t n 0 k p) fun _ p => bR (pMd t n 4000 0 md0 p) fun m q => pEnd n m q) σ0 σ') := by
      refine (w_rd76 (d := d) (n := n) (t := t) 4000 0 0 p md0 (sI σ 45 2 0) (by decide) (by omega) (by decide) sI_ss (h.sI rfl) (f0_sI hf rfl) (hD.fr (Fr.rf.sI rfl)) ⟨fun _ => rfl, fun _ => rfl, fun _ => rfl, fun _ => rfl, fun _ => rfl, fun _ => rfl, fun _ => rfl, fun _ => rfl⟩ (by unfold lenM; decide)).mono fun x σ1 hx => ?_
      obtain ⟨rfl, e1, f1, hu⟩ := Qv_s hx
      exact ⟨e1.trans e0, (f0.sI rfl).tr f1, hu⟩
    refine S_ModuleReader_read_30 ⟨fun _ => go, fun z => absurd (nI_le (a := 8) (by omega) (by omega)) z⟩
  | r + 1, k, p, σ, hk, hkp, f0, e0, h, hf, hD => by
    refine S_ModuleReader_read_30 ⟨fun z => absurd z (nI_ge (b := 8) (by omega) (by decide)), fun _ => kFine h hf ⟨fun z => absurd z (by decide), fun _ => ?_⟩⟩
    simp only [sW_id]
    rw [nI_clamp (by omega)]
    refine ⟨vp_in_nI (by omega) (by decide), ?_⟩
    refine kV h hf (c_expect (d := d + 5) h hf) (fun _ q hR e1 hR1 hf1 => ?_) fun w pl σ1 hR e1 hZ f1 => ?_
    · simp only [sW_okX]
      have hq := rX_q hR
      have hp : pHd t n (r + 1) k p = pHd t n r (k + 1) q := by rw [pHd, hR]; rfl
      rw [hp, show nI k + (1 : Int32) = nI (k + 1) from nI_1 k]
      exact w_rd30 σ0 r (k + 1) q (okX σ q) (by omega) (by omega) (f0.tr okX_fr.rdX.rdY) e0 hR1 hf1 (hD.fr okX_fr.rdX)
    · simp only [sW_eq e1]
      have hp : pHd t n (r + 1) k p = .inr (w, pl) := by rw [pHd, hR]; rfl
      rw [hp, show nI k + (1 : Int32) = nI (k + 1) from nI_1 k]
      refine (w_rd30z (d := d) hZ ⟨nI_le (b := 8) (by omega) (by decide), nI_pos (by omega)⟩).mono fun x σ2 hx => ?_
      obtain ⟨rfl, rfl⟩ := Qv_s hx
      exact ⟨e1.trans e0, (f0.tr f1.rdX.rdY).sI rfl, hZ.sI rfl⟩
/-- all that the class's reading may change, its text too -/
def sRZ (c j : Nat) : Bool := sRY c j || Nat.beq c 25
theorem Fr.rz {σ σ' : fkS} (h : Fr sRY σ σ') : Fr sRZ σ σ' := h.mono fun c j h => by
  unfold sRZ
  rw [h]
  rfl
theorem Fr.sAI {S : Nat → Nat → Bool} {σ σ' : fkS} {c : Nat} {f : Nat → Int32} (h : Fr S σ σ') (hc : ∀ j, S c j = true) : Fr S σ (sAI σ' c f) := fun a b e => by
  refine ⟨?_, (h a b e).2⟩
  by_cases h1 : a = c
  · subst h1
    rw [hc] at e
    cases e
  · refine Eq.trans ?_ (h a b e).1
    show (if a = c then f else σ'.1 a) b = _
    rw [if_neg h1]
theorem DX.zero (h1 : σ.1 24 1 = 0) (h3 : σ.1 24 3 = 0) (h5 : σ.1 24 5 = 0) (h7 : σ.1 24 7 = 0) (h9 : σ.1 24 9 = 0) (h12 : σ.1 24 12 = 0) (h14 : σ.1 24 14 = 0) (h17 : σ.1 24 17 = 0) (k0 : σ.1 36 0 = 0) (k5 : σ.1 36 5 = 0) (k9 : σ.1 36 9 = 0) : DX md0 σ := by
  have a1 : DT [] σ := ⟨h1, fun k x hx => by cases hx⟩
  have a2 : DU [] σ := ⟨h3, fun k x hx => by cases hx⟩
  have a3 : DA [] σ := ⟨h5, fun x hx => by cases hx⟩
  have a4 : DM [] σ := ⟨h7, fun x hx => by cases hx⟩
  have a5 : DG [] σ := ⟨h9, fun k x hx => by cases hx⟩
  have a6 : DE [] σ := ⟨h12, fun k x hx => by cases hx⟩
  have b1 : rEl [] σ := fun k x hx => by cases hx
  have b2 : rFl [] σ := ⟨h17, fun k x hx => by cases hx⟩
  have b3 : rF1 [] σ := fun k x hx => by cases hx
  have b4 : okF [] := fun k x hx => by cases hx
  have b5 : rSec [] σ := fun k i o x r hi => by cases hi
  have b6 : okO [] := fun o x hx => by cases hx
  have b8 : ∀ k i, ([] : List In)[k]? = some i → rowI [] σ k i := fun k i hi => by cases hi
  have b9 : ∀ (j B : Nat), (lbs [])[j]? = some B → σ.1 44 (3 * j) = nI B := fun j B hB => by cases hB
  have b7 : DCw [] σ := ⟨k5, k9, b8, b9, b5⟩
  exact ⟨a1, a2, a3, a4, a5, a6, ⟨h14, b1, b2⟩, ⟨k0, b3⟩, b4, b7, b6, rfl⟩
def fr46R (σ' σ : fkS) : Prop := σ'.2.2 = (sR σ 46 0 26).2.2
/-- READING: the class -/
theorem c_read (hn : n ≤ 4000) (hT : ∀ k, k < n → σ.1 1 k = (t k).toInt8.toInt32) : Cv (d + 8) 16 [.ref 45, .ref 24, .ref 1, .int (nI n)] σ (fun σ' => fr46R σ' σ ∧ (∀ c j, sRZ c j = false → σ'.1 c j = σ.1 c j ∧ σ'.2.1 c j = σ.2.1 c j) ∧ match pMo t n with
      | .inl (m, _) => DX m σ' ∧ (∀ k, k < n → σ'.1 25 k = (t k).toInt8.toInt32) ∧ σ'.1 46 3 = 0 ∧ σ'.1 46 4 = -1
      | .inr (w, pl) => w ≠ 0 ∧ σ'.1 46 3 = w ∧ σ'.1 46 4 = pl) := by
  refine S_ModuleReader_read ((c_clear).mono fun x σ1 hx => ?_)
  obtain ⟨rfl, e1, rfl⟩ := Qv_s hx
  refine ⟨e1, ?_⟩
  simp only [sW_eq e1]
  have hc : (nI n).toNatClampNeg = n := nI_clamp (by omega)
  have hfit : ∀ i, i < (nI n).toNatClampNeg → fits .byte (.int ((clr σ).1 1 ((0 : Int32).toNatClampNeg + i))) = true := by
    intro i hi
    rw [hc] at hi
    have : (clr σ).1 1 ((0 : Int32).toNatClampNeg + i) = (t i).toInt8.toInt32 := by
      rw [show (0 : Int32).toNatClampNeg + i = i from Nat.zero_add i]
      exact hT i hi
    rw [this]
    have key : ∀ b : UInt8, fits .byte (.int (b.toInt8.toInt32)) = true := by
      intro b
      have h2 : ∀ x : BitVec 8, fits .byte (.int ((UInt8.ofBitVec x).toInt8.toInt32)) = true := by decide +kernel
      exact h2 b.toBitVec
    exact key _
  refine ⟨by decide, by decide, nI_pos (by omega), by rw [hc]; show 0 + n ≤ 4000; omega, by rw [hc]; show 0 + n ≤ 4000; omega, hfit, ?_⟩
  refine S_Scan_begin ?_
  show Wq _ _ _ _ _ _ _
  have hmin : (if (4000 : Int32) < nI n then (4000 : Int32) else nI n) = nI n := by
    have h1 : ¬ (4000 : Int32) < nI n := nI_nlt (a := 4000) (by omega) (by decide)
    rw [if_neg h1]
  rw [hmin]
  generalize hτ : sI (sI (sI (sI (sR (sAI (clr σ) 25 _) 46 0 26) 46 1 (0 : Int32)) 46 2 (nI n)) 46 3 (0 : Int32)) 46 4 (-1 : Int32) = τ
  have g1 : RX t n n 0 τ := by
    subst hτ
    refine ⟨rfl, fun k hk => ?_, hn, Nat.le_refl _, rfl, rfl, by decide, fun _ => rfl⟩
    show va_cpy ((clr σ).1 1) ((clr σ).1 25) (0 : Int32).toNatClampNeg (0 : Int32).toNatClampNeg (nI n).toNatClampNeg k = _
    rw [hc]
    unfold va_cpy
    rw [if_pos ⟨Nat.zero_le _, by show k < 0 + n; omega⟩]
    show (clr σ).1 1 (0 + (k - 0)) = _
    rw [Nat.sub_zero, Nat.zero_add]
    exact hT k hk
  have g2 : τ.1 46 3 = 0 := by subst hτ; rfl
  have g3 : DX md0 τ := by
    subst hτ
    exact DX.zero rfl rfl rfl rfl rfl rfl rfl rfl rfl rfl rfl
  have g4 : fr46R τ σ := by subst hτ; rfl
  have g5 : ∀ c j, sRZ c j = false → τ.1 c j = σ.1 c j ∧ τ.2.1 c j = σ.2.1 c j := by
    intro c j hcj
    have f1 : Fr sRZ σ (clr σ) := by
      unfold clr
      exact ((((((((((Fr.rf.sI rfl).sI rfl).sI rfl).sI rfl).sI rfl).sI rfl).sI rfl).sI rfl).sI rfl).sI rfl).sI rfl
    have f2 : Fr sRZ σ (sAI (clr σ) 25 (va_cpy ((clr σ).1 1) ((clr σ).1 25) (0 : Int32).toNatClampNeg (0 : Int32).toNatClampNeg (nI n).toNatClampNeg)) := f1.sAI fun _ => rfl
    have f3 : ∀ (υ : fkS), Fr sRZ υ (sI (sI (sI (sI υ 46 1 (0 : Int32)) 46 2 (nI n)) 46 3 (0 : Int32)) 46 4 (-1 : Int32)) := fun υ => (((Fr.rf.sI rfl).sI rfl).sI rfl).sI rfl
    subst hτ
    obtain ⟨a1, a2, -⟩ := f3 (sR (sAI (clr σ) 25 (va_cpy ((clr σ).1 1) ((clr σ).1 25) (0 : Int32).toNatClampNeg (0 : Int32).toNatClampNeg (nI n).toNatClampNeg)) 46 0 26) c j hcj
    obtain ⟨b1, b2, -⟩ := f2 c j hcj
    exact ⟨a1.trans b1, a2.trans b2⟩
  clear hτ
  refine (w_rd30 (d := d + 1) τ 8 0 0 τ rfl rfl Fr.rf rfl g1 g2 g3).mono fun x σ2 hx => ?_
  obtain ⟨rfl, e2, f2, hu⟩ := Qv_s hx
  refine ⟨e2.trans g4, fun c j hcj => ?_, ?_⟩
  · have hy : sRY c j = false := by
      cases hh : sRY c j
      · rfl
      · rw [show sRZ c j = true by unfold sRZ; rw [hh]; rfl] at hcj
        cases hcj
    obtain ⟨a1, a2, -⟩ := f2 c j hy
    obtain ⟨b1, b2⟩ := g5 c j hcj
    exact ⟨a1.trans b1, a2.trans b2⟩
  · have hpm : pMo t n = bR (pHd t n 8 0 0) fun _ p => bR (pMd t n 4000 0 md0 p) fun m q => pEnd n m q := rfl
    rw [← hpm] at hu
    cases hM : pMo t n with
    | inl y =>
      obtain ⟨m, q⟩ := y
      rw [hM] at hu
      obtain ⟨u1, u2, u3⟩ := hu
      exact ⟨u1, u2.2.1, u3, u2.2.2.2.2.2.2.2 u3⟩
    | inr y =>
      obtain ⟨w, pl⟩ := y
      rw [hM] at hu
      exact hu.2
end RDXX
