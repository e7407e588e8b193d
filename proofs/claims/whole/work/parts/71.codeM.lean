/-! CODES: one of them; the reference -/
section CDM
variable {t : Nat → UInt8} {b n e d : Nat}
def rKM (X : Nat) (x : Fi) (σ : fkS) : Prop := σ.1 134 X = nI x.1.length ∧ (∀ (j y : Nat), x.1[j]? = some y → σ.1 135 (50 * X + j) = nI y) ∧ σ.1 136 X = nI x.2.1
def sKM (X b c j : Nat) : Bool := sXE b c j || (Nat.beq c 103 && Nat.beq j 41) || ((Nat.beq c 134 || Nat.beq c 136) && Nat.beq j X) || (Nat.beq c 135 && bk 50 X j)
theorem Fr.xKM {X b : Nat} {σ σ' : fkS} (h : Fr (sXE b) σ σ') : Fr (sKM X b) σ σ' := h.mono fun c j h => by unfold sKM; rw [h]; rfl
theorem sKMx (X b : Nat) : sKM X b 134 X = true ∧ sKM X b 136 X = true := by unfold sKM; simp
theorem sKM5 (X b : Nat) {j : Nat} (hj : j < 50) : sKM X b 135 (50 * X + j) = true := by unfold sKM; rw [bk_in hj]; simp
theorem rm_end {p E : Nat} {σ : fkS} (h : RM t b n e p σ) (hE : E ≤ n) : RM t b n E p (sI σ 103 41 (nI E)) := by
  obtain ⟨h0, h1, h2, h3, h4, h5, h6, h7⟩ := h
  refine ⟨h0, ?_, fun k hk => h2 k hk, h3, hE, sI_ss, ?_, h7⟩
  · rw [sI_so (by decide)]
    exact h1
  · rw [sI_so (by decide)]
    exact h6
theorem zm_end {E : Nat} {w pl : Int32} {σ : fkS} (h : ZM t b n e w pl σ) (hE : E ≤ n) : ZM t b n E w pl (sI σ 103 41 (nI E)) := by
  obtain ⟨⟨q, a1⟩, a2, a3, a4⟩ := h
  refine ⟨⟨q, rm_end a1 hE⟩, a2, ?_, ?_⟩
  · rw [sI_so (by decide)]
    exact a3
  · rw [sI_so (by decide)]
    exact a4
theorem g0_41 {σ : fkS} {v : Int32} (h : σ.1 103 42 = 0) : (sI σ 103 41 v).1 103 42 = 0 := by
  rw [sI_so (by decide)]
  exact h
theorem w_ex0 {Q : Option Value → fkS → Prop} {σ0 : fkS} {R : Rr (List In)} (kok : ∀ C q σ', R = .inl (C, q) → Fr (sXE b) σ0 σ' → RCx t C b q σ' → RM t b n e q σ' → σ'.1 103 42 = 0 → sk C C.length = [] → Q none σ')
    (kft : ∀ w pl σ', R = .inr (w, pl) → Fr (sXE b) σ0 σ' → ZM t b n e w pl σ' → Q none σ') (p : Nat) (C : List In) (hp : 8 ≤ p) (hR : pBo t e 4000 C p = R) (h : RM t b n e p σ0) (hf : σ0.1 103 42 = 0) (hC : RCx t C b p σ0) (hs : sk C C.length = []) : Wq 262 (d + 5) 2 [some (.ref 103), some (.int (0 : Int32)), none, none, none] [] σ0 Q := by
  have key := w_ex2 (d := d) (σ0 := σ0) kok kft 4000 0 p C σ0 (by omega) (by omega) hR Fr.rf h hf hC (by rw [hs]; exact Nat.zero_le _)
  rw [hs] at key
  exact key
theorem w_cM159z {X e2 : Nat} {w pl : Int32} {σ : fkS} (hX : X < 120) (he : e ≤ n) (h : ZM t b n e2 w pl σ) : Wq 261 (d + 6) 159 [some (.ref 103), some (.int (nI X)), none, some (.int (nI e)), none, none, none, none, none, none, none] [] σ (Qv fun σ' => Fr (sKM X b) σ σ' ∧ ZM t b n e w pl σ') := by
  obtain ⟨s1, s2⟩ := sKMx X b
  refine S_M_code_159 ?_
  rw [nI_clamp (by omega)]
  refine ⟨vp_in_nI hX (by decide), ?_⟩
  have hZ1 : ∀ v, ZM t b n e2 w pl (sI σ 136 X v) := fun v => h.sI (ew rfl)
  refine S_M_expression (S_M_expression_2 ⟨fun _ => ?_, fun z => absurd z (hZ1 _).nz⟩)
  show (_ → _) ∧ (_ → _)
  exact ⟨fun _ => ⟨(Fr.rf.sI s2).sI rfl, zm_end (hZ1 _) he⟩, fun z => absurd z (hZ1 _).nz⟩
theorem w_cM44z {X e2 m : Nat} {w pl : Int32} {x : Int32} {σ : fkS} (hX : X < 120) (he : e ≤ n) (h : ZM t b n e2 w pl σ) : Wq 261 (d + 6) 44 [some (.ref 103), some (.int (nI X)), none, some (.int (nI e)), some (.int (nI m)), some (.int x), none, none, none, none, none] [] σ (Qv fun σ' => Fr (sKM X b) σ σ' ∧ ZM t b n e w pl σ') :=
  S_M_code_44 ⟨fun _ => w_cM159z hX he h, fun _ => ⟨fun _ => w_cM159z hX he h, fun z => absurd z h.nz⟩⟩
theorem w_cM103 {X e2 m i B ty q2 : Nat} (hX : X < 120) (hB : B < 2 ^ 32) {Q : Option Value → fkS → Prop} {σ0 : fkS} (L0 : List Nat)
    (kok : ∀ σ', Fr (sKM X b) σ0 σ' → σ'.1 134 X = nI (L0.length + B) → (∀ (j y : Nat), (L0 ++ List.replicate B ty)[j]? = some y → σ'.1 135 (50 * X + j) = nI y) → RM t b n e2 q2 σ' → σ'.1 103 42 = 0 → (∀ c j, c ≠ 134 → c ≠ 135 → σ'.1 c j = σ0.1 c j) → Wq 261 (d + 6) 44 [some (.ref 103), some (.int (nI X)), none, some (.int (nI e)), some (.int (nI m)), some (.int (nI i + (1 : Int32))), none, none, none, none, none] [] σ' Q) (hL : L0.length + B ≤ 50) :
    ∀ (r j : Nat) (σ : fkS), j + r = B → Fr (sKM X b) σ0 σ → σ.1 134 X = nI (L0.length + j) → (∀ (a y : Nat), (L0 ++ List.replicate j ty)[a]? = some y → σ.1 135 (50 * X + a) = nI y) → RM t b n e2 q2 σ → σ.1 103 42 = 0 → (∀ c j, c ≠ 134 → c ≠ 135 → σ.1 c j = σ0.1 c j) → Wq 261 (d + 6) 103 [some (.ref 103), some (.int (nI X)), none, some (.int (nI e)), some (.int (nI m)), some (.int (nI i)), none, some (.long (lN B)), none, some (.int (nI ty)), some (.int (nI j))] [] σ Q
  | 0, j, σ, hj, f0, h4, h5, h, hf, hk => by
    have hjB : j = B := by omega
    subst hjB
    have hc : 0 ≤ lg_cmp (nI j).toInt64 (lN j) := by
      rw [nI_l (by omega)]
      unfold lg_cmp
      rw [if_neg (by rw [gt_iff_lt]; exact Int64.not_lt.mpr (Int64.le_refl _)), if_pos rfl]
      decide
    exact S_M_code_103 ⟨fun _ => kok σ f0 h4 h5 h hf hk, fun z => absurd hc z⟩
  | r + 1, j, σ, hj, f0, h4, h5, h, hf, hk => by
    have hc : ¬ 0 ≤ lg_cmp (nI j).toInt64 (lN B) := by
      rw [nI_l (by omega)]
      have h1 : lN j < lN B := Int64.not_le.mp fun z => by have := (pk_lLE (by omega) (by omega)).mp z; omega
      unfold lg_cmp
      rw [if_neg (by rw [gt_iff_lt]; exact Int64.not_lt.mpr (Int64.le_of_lt h1)), if_neg (fun z => by rw [z] at h1; exact Int64.lt_irrefl h1)]
      decide
    obtain ⟨s1, s2⟩ := sKMx X b
    have hin : vp_in (nI X) 120 := vp_in_nI hX (by decide)
    refine S_M_code_103 ⟨fun z => absurd z hc, fun _ => ⟨fun z => absurd hf z, fun _ => ?_⟩⟩
    have hX2 : X < 2 ^ 31 := by omega
    rw [nI_clamp hX2, h4]
    have e5 : ((50 : Int32) * nI X) + nI (L0.length + j) = nI (50 * X + (L0.length + j)) := by rw [show (50 : Int32) = nI 50 from rfl, nI_mul, nI_add]
    rw [e5, nI_clamp (by omega), show nI (L0.length + j) + (1 : Int32) = nI (L0.length + (j + 1)) from nI_1 _, show nI j + (1 : Int32) = nI (j + 1) from nI_1 _]
    refine ⟨hin, vp_in_nI (by omega) (by decide), hin, hin, ?_⟩
    refine w_cM103 hX hB L0 kok hL r (j + 1) _ (by omega) ((f0.sI (sKM5 X b (by omega))).sI s1) sI_ss ?_ ((h.sI (ew rfl)).sI (ew rfl)) (g0_sI (g0_sI hf rfl) rfl) (fun c a h1 h2 => ?_)
    · intro a y hy
      rw [List.replicate_succ', ← List.append_assoc] at hy
      rw [sI_o (by decide), sI3]
      rcases get_snoc hy with ⟨hy, hlt⟩ | ⟨ha, rfl⟩
      · rw [List.length_append, List.length_replicate] at hlt
        rw [if_neg (by omega)]
        exact h5 a y hy
      · rw [List.length_append, List.length_replicate] at ha
        rw [if_pos (by omega)]
    · rw [sI_o h1, sI_o h2]
      exact hk c a h1 h2
/-- what the locals leave alone -/
theorem w_cM44 {X e2 m : Nat} (hX : X < 120) (he : e ≤ n) (hm : m ≤ 60) {Q : Option Value → fkS → Prop} {σ0 : fkS} {R : Rr (List Nat)}
    (kok : ∀ L q σ', R = .inl (L, q) → Fr (sKM X b) σ0 σ' → σ'.1 134 X = nI L.length → L.length ≤ 50 → (∀ (j y : Nat), L[j]? = some y → σ'.1 135 (50 * X + j) = nI y) → RM t b n e2 q σ' → σ'.1 103 42 = 0 → (∀ c j, c ≠ 134 → c ≠ 135 → c ≠ 103 → σ'.1 c j = σ0.1 c j) → Wq 261 (d + 6) 159 [some (.ref 103), some (.int (nI X)), none, some (.int (nI e)), none, none, none, none, none, none, none] [] σ' Q)
    (kft : ∀ w pl σ', R = .inr (w, pl) → Fr (sKM X b) σ0 σ' → ZM t b n e w pl σ' → Q none σ') :
    ∀ (r i p : Nat) (L : List Nat) (σ : fkS), i + r = m → pLo t e2 r L p = R → L.length ≤ 50 → Fr (sKM X b) σ0 σ → σ.1 134 X = nI L.length → (∀ (j y : Nat), L[j]? = some y → σ.1 135 (50 * X + j) = nI y) → RM t b n e2 p σ → σ.1 103 42 = 0 → (∀ c j, c ≠ 134 → c ≠ 135 → c ≠ 103 → σ.1 c j = σ0.1 c j) → Wq 261 (d + 6) 44 [some (.ref 103), some (.int (nI X)), none, some (.int (nI e)), some (.int (nI m)), some (.int (nI i)), none, none, none, none, none] [] σ Q
  | 0, i, p, L, σ, hi, hR, hL, f0, h4, h5, h, hf, hk => S_M_code_44 ⟨fun _ => kok L p σ hR.symm f0 h4 hL h5 h hf hk, fun z => absurd (nI_le (by omega) (by omega)) z⟩
  | r + 1, i, p, L, σ, hi, hR, hL, f0, h4, h5, h, hf, hk => by
    have hin : vp_in (nI X) 120 := vp_in_nI hX (by decide)
    have hp1 : σ.1 103 40 = nI p := h.2.2.2.2.2.2.1
    have zend : ∀ (w pl : Int32) (σ1 : fkS) (x : Int32), R = .inr (w, pl) → ZM t b n e2 w pl σ1 → Fr (sKM X b) σ0 σ1 → Wq 261 (d + 6) 44 [some (.ref 103), some (.int (nI X)), none, some (.int (nI e)), some (.int (nI m)), some (.int x), none, none, none, none, none] [] σ1 Q := by
      intro w pl σ1 x hr hZ f1
      refine (w_cM44z (d := d) (m := m) hX he hZ).mono fun y σ2 hx => ?_
      obtain ⟨rfl, f2, hu⟩ := Qv_s hx
      exact kft w pl σ2 hr (f1.tr f2) hu
    have zend103 : ∀ (w pl : Int32) (σ1 : fkS) (v : Int64) (x9 : Int32), R = .inr (w, pl) → ZM t b n e2 w pl σ1 → Fr (sKM X b) σ0 σ1 → Wq 261 (d + 6) 103 [some (.ref 103), some (.int (nI X)), none, some (.int (nI e)), some (.int (nI m)), some (.int (nI i)), none, some (.long v), none, some (.int x9), some (.int (0 : Int32))] [] σ1 Q := by
      intro w pl σ1 v x9 hr hZ f1
      have fin := zend w pl σ1 (nI i + 1) hr hZ f1
      exact S_M_code_103 ⟨fun _ => fin, fun _ => ⟨fun _ => fin, fun z => absurd z hZ.nz⟩⟩
    refine S_M_code_44 ⟨fun z => absurd z (nI_ge (by omega) (by omega)), fun _ => ⟨fun z => absurd hf z, fun _ => ?_⟩⟩
    rw [hp1, nI_clamp (by omega)]
    refine qJ h hf (mU h hf) (fun B q r2 hU hv hR1 hf1 => ?_) fun w pl r2 σ1 hU hr0 hZ f1 => ?_
    · subst hv
      obtain ⟨-, hB, hq1, hq2⟩ := nU_l hU
      have h4b : (okM σ q).1 134 X = nI L.length := h4
      rw [h4b]
      refine ⟨hin, ?_⟩
      have e50 : (50 : Int32) - nI L.length = nI (50 - L.length) := nI_sub (a := 50) (by omega)
      rw [e50, nI_l (by omega)]
      have hlo : pLo t e2 (r + 1) L p = if L.length + B ≤ 50 then bR (nT t e2 q) fun ty q2 => pLo t e2 r (L ++ List.replicate B ty) q2 else .inr (-2, nI p) := by rw [pLo, hU]; rfl
      rw [hlo] at hR
      have hcm : lg_cmp (lN B) (lN (50 - L.length)) ≤ 0 ↔ L.length + B ≤ 50 := by
        rw [lg_cmp_le, pk_lLE (by omega) (by omega)]
        omega
      refine ⟨fun z => ?_, fun z => ?_⟩
      · have hz := hcm.mp z
        rw [if_pos hz] at hR
        refine qI hR1 hf1 (mT hR1 hf1) (fun ty q2 r2 hT hv hR2 hf2 => ?_) fun w pl r2 σ2 hT _ hZ f2 => ?_
        · subst hv
          rw [hT] at hR
          rw [okM_ok] at hR2 hf2 ⊢
          refine w_cM103 (d := d) (e := e) (σ0 := σ0.1 |> fun _ => okM σ q2) (b := b) hX hB L (fun σ' g1 g2 g3 g4 g5 g6 => ?_) hz B 0 (okM σ q2) (Nat.zero_add _) Fr.rf h4 (by rw [List.replicate_zero, List.append_nil]; exact h5) hR2 hf2 (fun _ _ _ _ => rfl)
          have hlen : (L ++ List.replicate B ty).length = L.length + B := by rw [List.length_append, List.length_replicate]
          have ih := w_cM44 hX he hm kok kft r (i + 1) q2 (L ++ List.replicate B ty) σ' (by omega) hR (by rw [hlen]; exact hz) ((f0.tr okM_fr.fXE.xKM).tr g1) (by rw [hlen]; exact g2) g3 g4 g5 (fun c j h1 h2 h3 => (g6 c j h1 h2).trans ((okM_fr c j (by unfold fM; rw [show Nat.beq c 103 = false from Bool.eq_false_iff.mpr fun z => h3 (Nat.eq_of_beq_eq_true z)]; rfl)).1.trans (hk c j h1 h2 h3)))
          rw [show nI (i + 1) = nI i + 1 from nI_succ i] at ih
          exact ih
        · rw [hT] at hR
          exact zend103 w pl σ2 _ _ hR.symm hZ (f0.tr (okM_fr.fXE.xKM.tr f2.fXE.xKM))
      · rw [if_neg (fun y => z (hcm.mpr y))] at hR
        refine qFails hR1 hf1 (by decide) fun σ2 hZ f2 => ?_
        refine y0I (c_valueTypeMz (d := d + 3) hZ.nz) ?_
        exact zend103 _ _ σ2 _ _ hR.symm hZ (f0.tr (okM_fr.fXE.xKM.tr f2.fXE.xKM))
    · subst hr0
      refine ⟨hin, ?_⟩
      have hlo : pLo t e2 (r + 1) L p = .inr (w, pl) := by rw [pLo, hU]; rfl
      rw [hlo] at hR
      have f1' : Fr (sKM X b) σ0 σ1 := f0.tr f1.fXE.xKM
      refine ⟨fun _ => y0I (c_valueTypeMz (d := d + 3) hZ.nz) (zend103 w pl σ1 _ _ hR.symm hZ f1'), fun _ => yFails hZ (y0I (c_valueTypeMz (d := d + 3) hZ.nz) (zend103 w pl σ1 _ _ hR.symm hZ f1'))⟩
/-- a CODE -/
theorem m_code {X p : Nat} {C : List In} {σ : fkS} (hX : X < 120) (he : e ≤ n) (hp : 8 ≤ p) (h : RM t b n e p σ) (hf : σ.1 103 42 = 0) (hC : posI t C p) (hD : RCd C b σ) (hs : sk C C.length = []) : Cv (d + 6) 261 [.ref 103, .int (nI X)] σ (fun σ' => Fr (sKM X b) σ σ' ∧ match pCd t e C p with
      | .inl (x, q) => (rKM X x.1 σ' ∧ RCd x.2 b σ' ∧ posI t x.2 q ∧ sk x.2 x.2.length = []) ∧ RM t b n e q σ' ∧ σ'.1 103 42 = 0
      | .inr (w, pl) => ZM t b n e w pl σ') := by
  obtain ⟨s1, s2⟩ := sKMx X b
  have hin : vp_in (nI X) 120 := vp_in_nI hX (by decide)
  have hb := h.1
  refine S_M_code ?_
  refine qI h hf (c_sizeOf h hf) (fun B q r hZs hv hR1 hf1 => ?_) fun w pl r σ1 hZs hr0 hZ f1 => ?_
  · subst hv
    obtain ⟨hz1, hz2, hz3⟩ := rZ_l2 hZs
    have h4 := h.2.2.2.1
    refine ⟨fun _ => ?_, fun z => absurd hf1 z⟩
    rw [hR1.2.2.2.2.2.2.1, hR1.2.2.2.2.2.1, nI_add, nI_clamp (by omega)]
    have g1 : RM t b n (q + B) q (sI (okM σ q) 103 41 (nI (q + B))) := rm_end hR1 (by omega)
    have g2 : (sI (okM σ q) 103 41 (nI (q + B))).1 103 42 = 0 := g0_41 hf1
    have fr0 : Fr (sKM X b) σ (sI (okM σ q) 103 41 (nI (q + B))) := okM_fr.fXE.xKM.sI rfl
    have hcd : pCd t e C p = pCd2 t (q + B) C q := by unfold pCd; rw [hZs]; rfl
    rw [hcd]
    refine qI g1 g2 (mV g1 g2) (fun m q1 r hV hv hR2 hf2 => ?_) fun w pl r σ2 hV hr0 hZ f2 => ?_
    · subst hv
      obtain ⟨-, hm, hq1, -⟩ := nV_l hV
      refine ⟨hin, ?_⟩
      have hcd2 : pCd2 t (q + B) C q = bR (pLo t (q + B) m [] q1) fun L q2 => pCd3 t (q + B) C L q2 := by unfold pCd2; rw [hV]; rfl
      rw [hcd2]
      refine w_cM44 (d := d) (σ0 := σ) (R := pLo t (q + B) m [] q1) hX he hm (fun L q2 σ3 hL f3 k4 k50 k5 hR3 hf3 hk => ?_) (fun w pl σ3 hL f3 hZ => ?_) m 0 q1 [] _ (Nat.zero_add _) rfl (by decide) ((fr0.tr okM_fr.fXE.xKM).sI s1) sI_ss (fun j y hy => by cases hy) (hR2.sI (ew rfl)) (g0_sI hf2 rfl) (fun c j h1 h2 h3 => ?_)
      · rw [hL]
        simp only [bR]
        have hql := pLo_le _ _ _ _ _ hL
        refine S_M_code_159 ?_
        rw [nI_clamp (by omega), hR3.2.2.2.2.2.2.1]
        refine ⟨hin, ?_⟩
        have c137 : ∀ j, σ3.1 137 j = σ.1 137 j := fun j => hk 137 j (by decide) (by decide) (by decide)
        have c138 : ∀ j, σ3.1 138 j = σ.1 138 j := fun j => hk 138 j (by decide) (by decide) (by decide)
        have hRC : RCx t C b q2 (sI σ3 136 X (nI q2)) := by
          have k2 : RCd C b (sI σ3 136 X (nI q2)) := fun k i o x r a1 a2 a3 => by
            obtain ⟨b1, b2⟩ := hD k i o x r a1 a2 a3
            exact ⟨(c138 _).trans b1, (c137 _).trans b2⟩
          have k3 : RCo C b (sI σ3 136 X (nI q2)) := fun o x hx => by rw [hs] at hx; cases hx
          have k4 : RCp C (sI σ3 136 X (nI q2)) := fun k a ha => by rw [hs] at ha; cases ha
          exact ⟨⟨fun k i hi => by have := hC.1 k i hi; exact ⟨by omega, this.2⟩, hC.2⟩, k2, k3, k4⟩
        have hR4 : RM t b n (q + B) q2 (sI σ3 136 X (nI q2)) := hR3.sI (ew rfl)
        have hf4 : (sI σ3 136 X (nI q2)).1 103 42 = 0 := g0_sI hf3 rfl
        have f4 : Fr (sKM X b) σ (sI σ3 136 X (nI q2)) := f3.sI s2
        have m4 : (sI σ3 136 X (nI q2)).1 134 X = nI L.length := k4
        have m5 : ∀ (j y : Nat), L[j]? = some y → (sI σ3 136 X (nI q2)).1 135 (50 * X + j) = nI y := k5
        have m6 : (sI σ3 136 X (nI q2)).1 136 X = nI q2 := sI_ss
        generalize sI σ3 136 X (nI q2) = τ at hRC hR4 hf4 f4 m4 m5 m6 ⊢
        refine S_M_expression ?_
        refine w_ex0 (d := d) (σ0 := τ) (R := pBo t (q + B) 4000 C q2) (b := b) (e := q + B) (n := n) (t := t) (fun C2 q3 σ5 hB f5 hC5 hR5 hf5 hs5 => ?_) (fun w pl σ5 hB f5 hZ5 => ?_) q2 C (by omega) rfl hR4 hf4 hRC hs
        · have hp3 : pCd3 t (q + B) C L q2 = if q3 < q + B then .inr (-1, nI q3) else .inl (((L, q2, C.length, C2.length - 1), C2), q3) := by unfold pCd3; rw [hB]; rfl
          show (_ → _) ∧ (_ → _)
          refine ⟨fun z => absurd hf5 z, fun _ => ?_⟩
          rw [hR5.2.2.2.2.2.1, hR5.2.2.2.2.2.2.1]
          have f6 : Fr (sKM X b) σ σ5 := f4.tr f5.xKM
          have h7 := hR5.2.2.2.2.2.2.2
          refine ⟨fun y => ?_, fun y => ?_⟩
          · have hz : ¬ q3 < q + B := fun w => nI_ge w (by omega) y
            rw [if_neg hz] at hp3
            refine ⟨f6.sI rfl, ?_⟩
            rw [hp3]
            refine ⟨⟨⟨?_, fun j y hy => ?_, ?_⟩, fun k i o x r a1 a2 a3 => hC5.2.1 k i o x r a1 a2 a3, hC5.1, hs5⟩, rm_end hR5 he, g0_41 hf5⟩
            · exact (f5 134 X rfl).1.trans m4
            · exact (f5 135 _ rfl).1.trans (m5 j y hy)
            · exact (f5 136 X rfl).1.trans m6
          · have hz : q3 < q + B := Nat.not_le.mp fun w => y (nI_le w (by omega))
            rw [if_pos hz] at hp3
            refine qFails hR5 hf5 (by decide) fun σ6 hZ6 f7 => ⟨(f6.tr f7.fXE.xKM).sI rfl, ?_⟩
            rw [hp3]
            exact zm_end hZ6 he
        · have hp3 : pCd3 t (q + B) C L q2 = .inr (w, pl) := by unfold pCd3; rw [hB]; rfl
          show (_ → _) ∧ (_ → _)
          refine ⟨fun _ => ⟨(f4.tr f5.xKM).sI rfl, ?_⟩, fun z => absurd z hZ5.nz⟩
          rw [hp3]
          exact zm_end hZ5 he
      · refine ⟨f3, ?_⟩
        rw [hL]
        exact hZ
      · rw [sI_o h1]
        show (okM (sI (okM σ q) 103 41 (nI (q + B))) q1).1 c j = _
        unfold okM
        rw [sI_o h3, sI_o h3, sI_o h3]
    · subst hr0
      refine ⟨hin, ?_⟩
      have hcd2 : pCd2 t (q + B) C q = .inr (w, pl) := by unfold pCd2; rw [hV]; rfl
      refine (w_cM44z (d := d) (m := 0) hX he (hZ.sI (ew rfl))).mono fun y σ3 hx => ?_
      obtain ⟨rfl, f3, hu⟩ := Qv_s hx
      refine ⟨((fr0.tr f2.fXE.xKM).sI s1).tr f3, ?_⟩
      rw [hcd2]
      exact hu
  · subst hr0
    refine ⟨fun z => absurd z hZ.nz, fun _ => ⟨f1.fXE.xKM, ?_⟩⟩
    have hcd : pCd t e C p = .inr (w, pl) := by unfold pCd; rw [hZs]; rfl
    rw [hcd]
    exact hZ
end CDM
