/-! ELEMENTS: the class. All FUNCTIONS of all ELEMENTS stand in one row -/
abbrev El : Type := Nat × Int64 × List Nat
def pFs (t : Nat → UInt8) (e : Nat) : Nat → Nat → Rr (List Nat)
  | 0, p => .inl ([], p)
  | k + 1, p => bR (nU t e p) fun x q => bR (pFs t e k q) fun l q2 => .inl (x :: l, q2)
def pEl3 (t : Nat → UInt8) (e : Nat) (c : Nat × Int64) (p2 : Nat) : Rr El := bR (nV t e p2) fun n p3 => bR (pFs t e n p3) fun l p4 => .inl ((c.1, c.2, l), p4)
def pEl2 (t : Nat → UInt8) (e p1 : Nat) : Rr El := bR (pCo t e p1) fun c p2 => pEl3 t e c p2
def pEl (t : Nat → UInt8) (e p : Nat) : Rr El := bR (nU t e p) fun z p1 => if z = 0 then pEl2 t e p1 else .inr (-1, nI p)
/-- where the FUNCTIONS of ELEMENT k begin -/
def elBase (l : List El) (k : Nat) : Nat := ((l.take k).map fun x => x.2.2.length).sum
def rEl (l : List El) (σ : fkS) : Prop := ∀ k x, l[k]? = some x → σ.1 33 (3 * k) = nI x.1 ∧ σ.1 33 (3 * k + 1) = nI (elBase l k) ∧ σ.1 33 (3 * k + 2) = nI x.2.2.length ∧ σ.2.1 34 k = x.2.1
def rFl (l : List Nat) (σ : fkS) : Prop := σ.1 24 17 = nI l.length ∧ ∀ k x, l[k]? = some x → σ.1 35 k = nI x
def elAll (l : List El) : List Nat := l.flatMap fun x => x.2.2
def DL (l : List El) (σ : fkS) : Prop := σ.1 24 14 = nI l.length ∧ rEl l σ ∧ rFl (elAll l) σ
def sDL (c j : Nat) : Bool := f46 c j || (Nat.beq c 24 && (Nat.beq j 14 || Nat.beq j 17)) || Nat.beq c 33 || Nat.beq c 34 || Nat.beq c 35
theorem Fr.f46L {σ σ' : fkS} (h : Fr f46 σ σ') : Fr sDL σ σ' := h.mono fun c j h => by unfold sDL; rw [h]; rfl
theorem elBase_len (l : List El) : elBase l l.length = (elAll l).length := by
  unfold elBase elAll
  rw [List.take_length, List.length_flatMap]
theorem elBase_snoc {l : List El} {x : El} {k : Nat} (hk : k ≤ l.length) : elBase (l ++ [x]) k = elBase l k := by
  unfold elBase
  rw [List.take_append_of_le_length hk]
theorem elAll_snoc (l : List El) (x : El) : elAll (l ++ [x]) = elAll l ++ x.2.2 := by
  unfold elAll
  simp
theorem rFl.snoc {l : List Nat} {σ σ' : fkS} {x : Nat} (h : rFl l σ) (hl : l.length < 4000) (hc : σ'.1 24 17 = σ.1 24 17 + 1) (h35 : ∀ j, σ'.1 35 j = if j = l.length then nI x else σ.1 35 j) : rFl (l ++ [x]) σ' := by
  refine ⟨?_, fun k y hy => ?_⟩
  · rw [hc, h.1, List.length_append]
    exact nI_1 _
  · rw [h35]
    rcases get_snoc hy with ⟨hy, hk⟩ | ⟨rfl, rfl⟩
    · rw [if_neg (by omega)]
      exact h.2 k y hy
    · rw [if_pos rfl]
theorem pFs_len {t : Nat → UInt8} {e : Nat} : ∀ (k p : Nat) (l : List Nat) (q : Nat), pFs t e k p = .inl (l, q) → l.length = k ∧ p + k ≤ q ∧ (0 < k → q ≤ e)
  | 0, p, l, q, h => by
    cases h
    exact ⟨rfl, Nat.le_refl _, fun z => absurd z (by decide)⟩
  | k + 1, p, l, q, h => by
    rw [pFs] at h
    cases hU : nU t e p with
    | inl y =>
      obtain ⟨x, q1⟩ := y
      rw [hU] at h
      simp only [bR] at h
      cases hF : pFs t e k q1 with
      | inl y =>
        obtain ⟨l2, q2⟩ := y
        rw [hF] at h
        cases h
        obtain ⟨h1, h2, h3⟩ := pFs_len k q1 l2 q hF
        obtain ⟨-, -, h4, h5⟩ := nU_l hU
        refine ⟨by rw [List.length_cons, h1], by omega, fun _ => ?_⟩
        by_cases hk : 0 < k
        · exact h3 hk
        · have : k = 0 := by omega
          subst this
          cases hF
          exact h5
      | inr y => rw [hF] at h; cases h
    | inr y => rw [hU] at h; cases h
/-- the loop over the FUNCTIONS; only the row of all and the count of ELEMENTS change -/
def sDF (c j : Nat) : Bool := f46 c j || (Nat.beq c 24 && (Nat.beq j 14 || Nat.beq j 17)) || Nat.beq c 35
theorem Fr.f46F {σ σ' : fkS} (h : Fr f46 σ σ') : Fr sDF σ σ' := h.mono fun c j h => by unfold sDF; rw [h]; rfl
theorem w_el109 {d n e m : Nat} {t : Nat → UInt8} (hm : m ≤ 60) : ∀ (k i p : Nat) (L : List Nat) (σ : fkS), i + k = m → RX t n e p σ → σ.1 46 3 = 0 → L.length + 8 ≤ p → rFl L σ → Wq 56 (d + 3) 109 [some (.ref 45), some (.ref 24), none, none, none, some (.int (nI m)), some (.int (nI i))] [] σ (Qv fun σ' => σ'.2.2 = σ.2.2 ∧ YR t n e sDF (fun l σ' => rFl (L ++ l) σ' ∧ σ'.1 24 14 = σ.1 24 14 + 1) (pFs t e k p) σ σ')
  | 0, i, p, L, σ, hi, h, hf, hL, hr => by
    refine S_ModuleReader_element_109 ⟨fun _ => ⟨rfl, Fr.rf.sI rfl, ?_⟩, fun z => absurd (nI_le (by omega) (by omega)) z⟩
    refine ⟨⟨?_, sI_ss⟩, h.sI rfl, f0_sI hf rfl⟩
    rw [List.append_nil]
    exact ⟨(sI_so (by decide)).trans hr.1, fun k x hx => hr.2 k x hx⟩
  | k + 1, i, p, L, σ, hi, h, hf, hL, hr => by
    refine S_ModuleReader_element_109 ⟨fun z => absurd z (nI_ge (by omega) (by omega)), fun _ => ?_⟩
    refine kFine h hf ⟨fun z => absurd z (by decide), fun _ => ?_⟩
    simp only [sW_id]
    rw [hr.1]
    obtain ⟨h1, h2, h3, h4, h5, h6, h7, -⟩ := id h
    refine ⟨fun z => ?_, fun z => ?_⟩
    · have hz : 4000 ≤ L.length := (nI_leI (a := 4000) (by decide) (by omega)).mp z
      omega
    · have hz : L.length < 4000 := Nat.not_le.mp fun y => z (nI_le (a := 4000) y (by omega))
      refine kJ h hf (cU h hf) (fun x q r hR hv e1 hR1 hf1 => ?_) fun w pl r σ1 hR hr0 e1 hZ f1 => ?_
      · subst hv
        simp only [sW_okX]
        refine ⟨vp_in_nI hz (by decide), ?_⟩
        rw [nI_clamp (by omega), lN_i]
        obtain ⟨-, -, hq1, hq2⟩ := nU_l hR
        generalize hτ : sI (sI (okX σ q) 35 L.length (nI x)) 24 17 ((okX σ q).1 24 17 + 1) = τ
        have g1 : RX t n e q τ := by subst hτ; exact (hR1.sI rfl).sI rfl
        have g2 : τ.1 46 3 = 0 := by subst hτ; exact f0_sI (f0_sI hf1 rfl) rfl
        have g3 : τ.2.2 = σ.2.2 := by subst hτ; rfl
        have g4 : Fr sDF σ τ := by subst hτ; exact (okX_fr.f46F.sI rfl).sI rfl
        have g5 : rFl (L ++ [x]) τ := by
          subst hτ
          exact rFl.snoc hr hz sI_ss fun j => by rw [sI_o (by decide), sI3]; rfl
        have g6 : τ.1 24 14 = σ.1 24 14 := by subst hτ; exact sI_so (by decide)
        clear hτ
        have ih := w_el109 (d := d) (n := n) (e := e) (t := t) hm k (i + 1) q (L ++ [x]) τ (by omega) g1 g2 (by rw [List.length_append]; show L.length + 1 + 8 ≤ q; omega) g5
        rw [show nI (i + 1) = nI i + 1 from nI_succ i] at ih
        refine ih.mono fun y σ2 hx => ?_
        obtain ⟨rfl, e2, f2, hu⟩ := Qv_s hx
        refine ⟨e2.trans g3, g4.tr f2, ?_⟩
        rw [pFs, hR]
        simp only [bR]
        cases hF : pFs t e k q with
        | inl y =>
          obtain ⟨l2, q2⟩ := y
          rw [hF] at hu
          simp only
          obtain ⟨⟨u1, u2⟩, u3, u4⟩ := hu
          rw [List.append_assoc] at u1
          exact ⟨⟨u1, by rw [u2, g6]⟩, u3, u4⟩
        | inr y =>
          obtain ⟨w, pl⟩ := y
          rw [hF] at hu
          exact hu
      · subst hr0
        simp only [sW_eq e1]
        refine ⟨vp_in_nI hz (by decide), ?_⟩
        have hZ1 : ZX t n e w pl (sI (sI σ1 35 (nI L.length).toNatClampNeg (0 : Int64).toInt32) 24 17 (σ1.1 24 17 + 1)) := (hZ.sI rfl).sI rfl
        have hp : pFs t e (k + 1) p = .inr (w, pl) := by rw [pFs, hR]; rfl
        have fin : (sI (sI (sI σ1 35 (nI L.length).toNatClampNeg (0 : Int64).toInt32) 24 17 (σ1.1 24 17 + 1)) 24 14 ((sI (sI σ1 35 (nI L.length).toNatClampNeg (0 : Int64).toInt32) 24 17 (σ1.1 24 17 + 1)).1 24 14 + 1)).2.2 = σ.2.2 ∧ YR t n e sDF (fun l σ' => rFl (L ++ l) σ' ∧ σ'.1 24 14 = σ.1 24 14 + 1) (pFs t e (k + 1) p) σ (sI (sI (sI σ1 35 (nI L.length).toNatClampNeg (0 : Int64).toInt32) 24 17 (σ1.1 24 17 + 1)) 24 14 ((sI (sI σ1 35 (nI L.length).toNatClampNeg (0 : Int64).toInt32) 24 17 (σ1.1 24 17 + 1)).1 24 14 + 1)) := by
          refine ⟨e1, ((f1.f46F.sI rfl).sI rfl).sI rfl, ?_⟩
          rw [hp]
          exact hZ1.sI rfl
        exact S_ModuleReader_element_109 ⟨fun _ => fin, fun _ => zFine hZ1 ⟨fun _ => fin, fun z => absurd rfl z⟩⟩
theorem w_el82z {d n e k : Nat} {t : Nat → UInt8} {w pl : Int32} {σ : fkS} (h : ZX t n e w pl σ) (hk : k < 60) : Wq 56 (d + 3) 82 [some (.ref 45), some (.ref 24), none, some (.int (nI (3 * k))), none, none, none] [.int (0 : Int32)] σ (Qv fun σ' => σ'.2.2 = σ.2.2 ∧ Fr sDL σ σ' ∧ ZX t n e w pl σ') := by
  have e1 : nI (3 * k) + (1 : Int32) = nI (3 * k + 1) := nI_1 _
  have e2 : nI (3 * k) + (2 : Int32) = nI (3 * k + 2) := nI_add _ 2
  refine S_ModuleReader_element_82 ⟨by rw [e1]; exact vp_in_nI (by omega) (by decide), by rw [e2]; exact vp_in_nI (by omega) (by decide), ?_⟩
  have hZ1 : ∀ a b v1 v2, ZX t n e w pl (sI (sI σ 33 a v1) 33 b v2) := fun _ _ _ _ => (h.sI rfl).sI rfl
  exact S_ModuleReader_element_109 ⟨fun _ => ⟨rfl, ((Fr.rf.sI rfl).sI rfl).sI rfl, (hZ1 _ _ _ _).sI rfl⟩, fun z => absurd (by decide) z⟩
theorem w_el35z {d n e k : Nat} {t : Nat → UInt8} {w pl : Int32} {σ : fkS} (h : ZX t n e w pl σ) (hk : k < 60) : Wq 56 (d + 3) 35 [some (.ref 45), some (.ref 24), some (.int (nI k)), some (.int (nI (3 * k))), none, none, none] [] σ (Qv fun σ' => σ'.2.2 = σ.2.2 ∧ Fr sDL σ σ' ∧ ZX t n e w pl σ') := by
  have hin : vp_in (nI (3 * k)) 180 := vp_in_nI (by omega) (by decide)
  refine S_ModuleReader_element_35 (c_operatorz h ⟨hin, hin, ?_⟩)
  have hZ1 : ∀ a v1, ZX t n e w pl (sI (sW σ σ) 33 a v1) := fun _ _ => h.sI rfl
  refine c_constantz (hZ1 _ _) ⟨vp_in_nI hk (by decide), ?_⟩
  have hZ2 : ∀ a v1 b v2, ZX t n e w pl (sL (sI (sW σ σ) 33 a v1) 34 b v2) := fun _ _ _ _ => (h.sI rfl).sL
  refine zFine (hZ2 _ _ _ _) ⟨fun _ => ?_, fun z => absurd rfl z⟩
  refine (w_el82z (d := d) (hZ2 _ _ _ _) hk).mono fun x σ3 hx => ?_
  obtain ⟨rfl, e3, f3, hu⟩ := Qv_s hx
  exact ⟨e3, ((Fr.rf.sI rfl).sL rfl).tr f3, hu⟩
/-- the row of an ELEMENT, its FUNCTIONS still to come -/
theorem w_el82 {d n e m p c1 : Nat} {c2 : Int64} {t : Nat → UInt8} {l : List El} {σ : fkS} (h : RX t n e p σ) (hf : σ.1 46 3 = 0) (hl : l.length < 60) (hm : m ≤ 60) (hp8 : (elAll l).length + 8 ≤ p) (hc : σ.1 24 14 = nI l.length) (hr : rEl l σ) (hF : rFl (elAll l) σ) (h0 : σ.1 33 (3 * l.length) = nI c1) (h1 : σ.2.1 34 l.length = c2) : Wq 56 (d + 3) 82 [some (.ref 45), some (.ref 24), none, some (.int (nI (3 * l.length))), none, none, none] [.int (nI m)] σ (Qv fun σ' => σ'.2.2 = σ.2.2 ∧ YR t n e sDL (fun x => DL (l ++ [x])) (bR (pFs t e m p) fun L p4 => .inl ((c1, c2, L), p4)) σ σ') := by
  have e1 : nI (3 * l.length) + (1 : Int32) = nI (3 * l.length + 1) := nI_1 _
  have e2 : nI (3 * l.length) + (2 : Int32) = nI (3 * l.length + 2) := nI_add _ 2
  refine S_ModuleReader_element_82 ⟨by rw [e1]; exact vp_in_nI (by omega) (by decide), by rw [e2]; exact vp_in_nI (by omega) (by decide), ?_⟩
  rw [e1, e2, nI_clamp (by omega), nI_clamp (by omega), hF.1]
  generalize hτ : sI (sI σ 33 (3 * l.length + 1) (nI (elAll l).length)) 33 (3 * l.length + 2) (nI m) = τ
  have g1 : RX t n e p τ := by subst hτ; exact (h.sI rfl).sI rfl
  have g2 : τ.1 46 3 = 0 := by subst hτ; exact f0_sI (f0_sI hf rfl) rfl
  have g3 : τ.2.2 = σ.2.2 := by subst hτ; rfl
  have g4 : Fr sDL σ τ := by subst hτ; exact (Fr.rf.sI rfl).sI rfl
  have g5 : rFl (elAll l) τ := by subst hτ; exact hF
  have g6 : τ.1 24 14 = nI l.length := by subst hτ; exact hc
  have g33 : ∀ j, τ.1 33 j = if j = 3 * l.length + 2 then nI m else if j = 3 * l.length + 1 then nI (elAll l).length else σ.1 33 j := by
    intro j
    subst hτ
    rw [sI3, sI3]
  have g34 : ∀ j, τ.2.1 34 j = σ.2.1 34 j := by subst hτ; exact fun j => rfl
  clear hτ
  refine (w_el109 (d := d) (n := n) (e := e) (t := t) hm m 0 p (elAll l) τ (Nat.zero_add m) g1 g2 hp8 g5).mono fun y σ2 hx => ?_
  obtain ⟨rfl, e3, f3, hu⟩ := Qv_s hx
  have f4 : Fr sDL τ σ2 := f3.mono fun c j hc => by
    unfold sDF at hc
    unfold sDL
    cases h46 : f46 c j
    · rw [h46] at hc
      cases ha : (Nat.beq c 24 && (Nat.beq j 14 || Nat.beq j 17))
      · rw [ha] at hc
        cases hb : Nat.beq c 35
        · rw [hb] at hc
          cases hc
        · simp
      · simp
    · rfl
  refine ⟨e3.trans g3, g4.tr f4, ?_⟩
  cases hP : pFs t e m p with
  | inl y =>
    obtain ⟨L, q⟩ := y
    rw [hP] at hu
    obtain ⟨⟨u1, u2⟩, u3, u4⟩ := hu
    have hLm := (pFs_len _ _ _ _ hP).1
    refine ⟨⟨?_, fun k x hx => ?_, ?_⟩, u3, u4⟩
    · rw [u2, g6, List.length_append]
      exact nI_1 _
    · have k33 : ∀ j, σ2.1 33 j = τ.1 33 j := fun j => (f3 33 j rfl).1
      have k34 : ∀ j, σ2.2.1 34 j = τ.2.1 34 j := fun j => (f3 34 j rfl).2.1
      rw [k33, k33, k33, k34, g33, g33, g33, g34]
      rcases get_snoc hx with ⟨hy, hk⟩ | ⟨rfl, rfl⟩
      · obtain ⟨a1, a2, a3, a4⟩ := hr k x hy
        rw [if_neg (by omega), if_neg (by omega), if_neg (by omega), if_neg (by omega), if_neg (by omega), if_neg (by omega), elBase_snoc (by omega)]
        exact ⟨a1, a2, a3, a4⟩
      · rw [if_neg (by omega), if_neg (by omega), if_neg (by omega), if_pos rfl, if_pos rfl, elBase_snoc (Nat.le_refl _), elBase_len, hLm]
        exact ⟨h0, rfl, rfl, h1⟩
    · rw [elAll_snoc]
      exact u1
  | inr y =>
    obtain ⟨w, pl⟩ := y
    rw [hP] at hu
    exact hu
theorem pOp_lt {t : Nat → UInt8} {e p op q : Nat} (hR : pOp t e p = .inl (op, q)) : op < 256 ∧ p < q ∧ q ≤ e ∧ (op = 65 ∨ op = 66 ∨ op = 35) := by
  unfold pOp at hR
  cases hN : nN t e p with
  | inl y =>
    obtain ⟨v, q2⟩ := y
    have := nN_l hN
    have := (t p).toNat_lt
    rw [hN] at hR
    simp only [bR] at hR
    split at hR
    · cases hR
    · split at hR
      · cases hR
        omega
      · cases hR
  | inr y => rw [hN] at hR; cases hR
theorem pCv_le {t : Nat → UInt8} {e p op q : Nat} {v : Int64} (hR : pCv t e op p = .inl (v, q)) : p < q ∧ q ≤ e := by
  unfold pCv at hR
  cases hC : pCn t e op p with
  | inl y =>
    obtain ⟨v2, q1⟩ := y
    rw [hC] at hR
    simp only [bR] at hR
    have h1 : p < q1 := by
      unfold pCn at hC
      split at hC
      · unfold nUl at hC
        cases hU : nU t e p with
        | inl y =>
          obtain ⟨B, q2⟩ := y
          rw [hU] at hC
          cases hC
          exact (nU_l hU).2.2.1
        | inr y => rw [hU] at hC; cases hC
      · exact (rG_le hC).1
    cases hX : rX 11 t e q1 with
    | inl y =>
      obtain ⟨y, q3⟩ := y
      have hX2 := hX
      rw [hX2] at hR
      cases hR
      unfold rX at hX
      split at hX
      next hz =>
        cases hX
        omega
      · cases hX
    | inr y => rw [hX] at hR; cases hR
  | inr y => rw [hC] at hR; cases hR
theorem w_el35 {d n e p : Nat} {t : Nat → UInt8} {l : List El} {σ : fkS} (h : RX t n e p σ) (hf : σ.1 46 3 = 0) (hl : l.length < 60) (hp8 : (elAll l).length + 8 ≤ p) (hD : DL l σ) : Wq 56 (d + 3) 35 [some (.ref 45), some (.ref 24), some (.int (nI l.length)), some (.int (nI (3 * l.length))), none, none, none] [] σ (Qv fun σ' => σ'.2.2 = σ.2.2 ∧ YR t n e sDL (fun x => DL (l ++ [x])) (pEl2 t e p) σ σ') := by
  obtain ⟨hc, hr, hF⟩ := hD
  have hin : vp_in (nI (3 * l.length)) 180 := vp_in_nI (by omega) (by decide)
  refine S_ModuleReader_element_35 ?_
  rw [nI_clamp (by omega), nI_clamp (by omega)]
  have zend : ∀ (σ2 : fkS) (w pl : Int32), ZX t n e w pl σ2 → σ2.2.2 = σ.2.2 → Fr sDL σ σ2 → pEl2 t e p = .inr (w, pl) → Wq 56 (d + 3) 82 [some (.ref 45), some (.ref 24), none, some (.int (nI (3 * l.length))), none, none, none] [.int (0 : Int32)] σ2 (Qv fun σ' => σ'.2.2 = σ.2.2 ∧ YR t n e sDL (fun x => DL (l ++ [x])) (pEl2 t e p) σ σ') := by
    intro σ2 w pl hZ e2 f2 hp
    refine (w_el82z (d := d) hZ hl).mono fun x σ3 hx => ?_
    obtain ⟨rfl, e3, f3, hu⟩ := Qv_s hx
    refine ⟨e3.trans e2, f2.tr f3, ?_⟩
    rw [hp]
    exact hu
  refine kYI (c_operator h hf) (fun op q r σ1 hR e1 f1 hv hR1 hf1 => ?_) fun w pl r σ1 hR e1 f1 hZ => ?_
  · subst hv
    obtain ⟨ho, hpq, hqe, -⟩ := pOp_lt hR
    simp only [sW_eq e1]
    refine ⟨hin, hin, ?_⟩
    rw [sI_ss]
    have g1 : RX t n e q (sI σ1 33 (3 * l.length) (nI op)) := hR1.sI rfl
    have g2 : (sI σ1 33 (3 * l.length) (nI op)).1 46 3 = 0 := f0_sI hf1 rfl
    refine kYJ (c_constant (d := d) g1 g2 ho) (fun v q2 r σ2 hR2 e2 f2 hv hR3 hf3 => ?_) fun w pl r σ2 hR2 e2 f2 hZ => ?_
    · subst hv
      have hq2 := pCv_le hR2
      have hco : pCo t e p = .inl ((op, r), q2) := by
        unfold pCo
        rw [hR]
        show bR (pCv t e op q) _ = _
        rw [hR2]
        rfl
      simp only [sW_eq (show σ2.2.2 = σ.2.2 from e2.trans e1)]
      refine ⟨vp_in_nI hl (by decide), ?_⟩
      generalize hτ : sL σ2 34 l.length r = τ
      have k1 : RX t n e q2 τ := by subst hτ; exact hR3.sL
      have k2 : τ.1 46 3 = 0 := by subst hτ; exact hf3
      have k3 : τ.2.2 = σ.2.2 := by subst hτ; exact e2.trans e1
      have k4 : Fr sDL σ τ := by subst hτ; exact ((f1.f46L.sI rfl).tr f2.f46L).sL rfl
      have k33 : ∀ j, τ.1 33 j = if j = 3 * l.length then nI op else σ.1 33 j := by
        intro j
        subst hτ
        show σ2.1 33 j = _
        rw [(f2 33 j rfl).1, sI3, (f1 33 j rfl).1]
      have k34 : ∀ j, τ.2.1 34 j = if j = l.length then r else σ.2.1 34 j := by
        intro j
        subst hτ
        rw [sL3, (f2 34 j rfl).2.1]
        show (if j = l.length then r else σ1.2.1 34 j) = _
        rw [(f1 34 j rfl).2.1]
      have k24 : ∀ j, j ≠ 1 → τ.1 24 j = σ.1 24 j := by
        intro j hj
        subst hτ
        show σ2.1 24 j = _
        rw [(f2 24 j rfl).1, sI_o (by decide), (f1 24 j rfl).1]
      have k35 : ∀ j, τ.1 35 j = σ.1 35 j := by
        intro j
        subst hτ
        show σ2.1 35 j = _
        rw [(f2 35 j rfl).1, sI_o (by decide), (f1 35 j rfl).1]
      clear hτ
      have m1 : rEl l τ := by
        intro k x hx
        have hk := (List.getElem?_eq_some_iff.mp hx).1
        obtain ⟨a1, a2, a3, a4⟩ := hr k x hx
        rw [k33, k33, k33, k34, if_neg (by omega), if_neg (by omega), if_neg (by omega), if_neg (by omega)]
        exact ⟨a1, a2, a3, a4⟩
      have m2 : rFl (elAll l) τ := ⟨(k24 17 (by decide)).trans hF.1, fun k x hx => (k35 k).trans (hF.2 k x hx)⟩
      have m3 : τ.1 33 (3 * l.length) = nI op := by rw [k33, if_pos rfl]
      have m4 : τ.2.1 34 l.length = r := by rw [k34, if_pos rfl]
      have m5 : τ.1 24 14 = nI l.length := (k24 14 (by decide)).trans hc
      refine kFine k1 k2 ⟨fun z => absurd z (by decide), fun _ => ?_⟩
      simp only [sW_eq k3]
      refine kI k1 k2 (cV k1 k2) (fun m q3 r2 hR4 hv e4 hR5 hf5 => ?_) fun w pl r2 σ4 hR4 hr0 e4 hZ f4 => ?_
      · subst hv
        obtain ⟨-, hm, hq3, hq4⟩ := nV_l hR4
        simp only [sW_eq (show (okX τ q3).2.2 = σ.2.2 from k3)]
        refine (w_el82 (d := d) (c1 := op) (c2 := r) hR5 hf5 hl hm (by omega) m5 m1 m2 m3 m4).mono fun x σ5 hx => ?_
        obtain ⟨rfl, e5, f5, hu⟩ := Qv_s hx
        refine ⟨e5.trans k3, (k4.tr okX_fr.f46L).tr f5, ?_⟩
        have hp : pEl2 t e p = bR (pFs t e m q3) fun L p4 => .inl ((op, r, L), p4) := by
          unfold pEl2
          rw [hco]
          show bR (nV t e q2) _ = _
          rw [hR4]
          rfl
        rw [hp]
        exact hu
      · subst hr0
        simp only [sW_eq (show σ4.2.2 = σ.2.2 from e4.trans k3)]
        refine zend σ4 w pl hZ (e4.trans k3) (k4.tr f4.f46L) ?_
        unfold pEl2
        rw [hco]
        show bR (nV t e q2) _ = _
        rw [hR4]
        rfl
    · simp only [sW_eq (show σ2.2.2 = σ.2.2 from e2.trans e1)]
      refine ⟨vp_in_nI hl (by decide), ?_⟩
      have hZ1 : ZX t n e w pl (sL σ2 34 l.length r) := hZ.sL
      refine zFine hZ1 ⟨fun _ => ?_, fun z => absurd rfl z⟩
      simp only [sW_eq (show (sL σ2 34 l.length r).2.2 = σ.2.2 from e2.trans e1)]
      refine zend _ w pl hZ1 (e2.trans e1) (((f1.f46L.sI rfl).tr f2.f46L).sL rfl) ?_
      unfold pEl2 pCo
      rw [hR]
      show bR (bR (pCv t e op q) _) _ = _
      rw [hR2]
      rfl
  · simp only [sW_eq e1]
    refine ⟨hin, hin, ?_⟩
    have hZ1 : ZX t n e w pl (sI σ1 33 (3 * l.length) r) := hZ.sI rfl
    refine c_constantz hZ1 ?_
    simp only [sW_eq (show (sI σ1 33 (3 * l.length) r).2.2 = σ.2.2 from e1)]
    refine ⟨vp_in_nI hl (by decide), ?_⟩
    have hZ2 : ZX t n e w pl (sL (sI σ1 33 (3 * l.length) r) 34 l.length 0) := hZ1.sL
    refine zFine hZ2 ⟨fun _ => ?_, fun z => absurd rfl z⟩
    simp only [sW_eq (show (sL (sI σ1 33 (3 * l.length) r) 34 l.length 0).2.2 = σ.2.2 from e1)]
    refine zend _ w pl hZ2 e1 ((f1.f46L.sI rfl).sL rfl) ?_
    unfold pEl2 pCo
    rw [hR]
    rfl
theorem c_element {d n e p : Nat} {t : Nat → UInt8} {l : List El} {σ : fkS} (h : RX t n e p σ) (hf : σ.1 46 3 = 0) (hl : l.length < 60) (hp8 : (elAll l).length + 8 ≤ p) (hD : DL l σ) : Dv (d + 3) 56 [.ref 45, .ref 24, .int (nI l.length)] σ (fun σ' => YR t n e sDL (fun x => DL (l ++ [x])) (pEl t e p) σ σ') := by
  have e0 : (3 : Int32) * nI l.length = nI (3 * l.length) := by rw [show (3 : Int32) = nI 3 from rfl, nI_mul]
  refine S_ModuleReader_element ?_
  rw [e0]
  have zend : ∀ (σ2 : fkS) (w pl : Int32), ZX t n e w pl σ2 → σ2.2.2 = σ.2.2 → Fr sDL σ σ2 → pEl t e p = .inr (w, pl) → Wq 56 (d + 3) 35 [some (.ref 45), some (.ref 24), some (.int (nI l.length)), some (.int (nI (3 * l.length))), none, none, none] [] σ2 (Qv fun σ' => σ'.2.2 = σ.2.2 ∧ YR t n e sDL (fun x => DL (l ++ [x])) (pEl t e p) σ σ') := by
    intro σ2 w pl hZ e2 f2 hp
    refine (w_el35z (d := d) hZ hl).mono fun x σ3 hx => ?_
    obtain ⟨rfl, e3, f3, hu⟩ := Qv_s hx
    refine ⟨e3.trans e2, f2.tr f3, ?_⟩
    rw [hp]
    exact hu
  have cmp0 : ∀ B, B < 2 ^ 32 → (lg_cmp (lN B) (0 : Int64) = 0 ↔ B = 0) := by
    intro B hB
    unfold lg_cmp
    by_cases hB0 : B = 0
    · subst hB0
      exact ⟨fun _ => rfl, fun _ => by decide⟩
    · have h1 : ¬ lN B ≤ (0 : Int64) := fun z => hB0 (by have := (pk_lLE (b := 0) (by omega) (by decide)).mp z; omega)
      have h2 : lN B > (0 : Int64) := Int64.not_le.mp h1
      rw [if_pos h2]
      exact ⟨fun z => absurd z (by decide), fun z => absurd z hB0⟩
  refine kJ h hf (cU h hf) (fun B q r hR hv e1 hR1 hf1 => ?_) fun w pl r σ1 hR hr0 e1 hZ f1 => ?_
  · subst hv
    simp only [sW_okX]
    obtain ⟨-, hB, hq1, hq2⟩ := nU_l hR
    have hp : pEl t e p = if B = 0 then pEl2 t e q else .inr (-1, nI p) := by unfold pEl; rw [hR]; rfl
    refine ⟨fun y => ?_, fun y => ?_⟩
    · rw [if_pos ((cmp0 B hB).mp y)] at hp
      refine (w_el35 (d := d) hR1 hf1 hl (by omega) ⟨hD.1, hD.2.1, hD.2.2⟩).mono fun x σ3 hx => ?_
      obtain ⟨rfl, e3, f3, hu⟩ := Qv_s hx
      refine ⟨e3, okX_fr.f46L.tr f3, ?_⟩
      rw [hp]
      exact hu
    · rw [if_neg (fun z => y ((cmp0 B hB).mpr z))] at hp
      refine kFail hR1 hf1 (by decide) fun σ2 e2 hZ f2 => ?_
      simp only [sW_eq (show σ2.2.2 = σ.2.2 from e2)]
      have hp1 : σ.1 46 1 = nI p := h.2.2.2.2.2.1
      rw [hp1] at hZ
      exact zend σ2 _ _ hZ e2 (okX_fr.f46L.tr f2.f46L) hp
  · subst hr0
    simp only [sW_eq e1]
    have hp : pEl t e p = .inr (w, pl) := by unfold pEl; rw [hR]; rfl
    refine ⟨fun _ => zend σ1 w pl hZ e1 f1.f46L hp, fun z => absurd (by decide) z⟩
