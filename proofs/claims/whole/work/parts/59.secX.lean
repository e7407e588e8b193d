/-! SECTIONS: the class -/
def pMn {α : Type} (P : Nat → Rr α) : Nat → List α → Nat → Rr (List α)
  | 0, l, p => .inl (l, p)
  | k + 1, l, p => bR (P p) fun x q => pMn P k (l ++ [x]) q
def pVc {α : Type} (t : Nat → UInt8) (e : Nat) (P : Nat → Rr α) (p : Nat) : Rr (List α) := bR (nV t e p) fun m q => pMn P m [] q
section SECX
variable {t : Nat → UInt8} {n e d : Nat}
theorem w_cont46 {α : Type} {S : Nat → Nat → Bool} {Rel : List α → fkS → Prop} {P : Nat → Rr α} {Inv : List α → Nat → Prop} {id : Int32} {m : Nat} (hm : m ≤ 60)
    (hstep : ∀ (l : List α) (p : Nat) (σ : fkS), l.length < 60 → Inv l p → RX t n e p σ → σ.1 46 3 = 0 → Rel l σ → Dv (d + 4) 49 [.ref 45, .ref 24, .int id, .int (nI l.length)] σ (fun σ' => YR t n e S (fun x => Rel (l ++ [x])) (P p) σ σ'))
    (hinv : ∀ l p x q, Inv l p → P p = .inl (x, q) → Inv (l ++ [x]) q) :
    ∀ (r p : Nat) (l : List α) (σ : fkS), l.length + r = m → Inv l p → RX t n e p σ → σ.1 46 3 = 0 → Rel l σ → Wq 47 (d + 5) 46 [some (.ref 45), some (.ref 24), some (.int id), some (.int (nI m)), some (.int (nI l.length))] [] σ (Qv fun σ' => σ'.2.2 = σ.2.2 ∧ YR t n e S Rel (pMn P r l p) σ σ')
  | 0, p, l, σ, hl, hi, h, hf, hR => by
    refine S_ModuleReader_content_46 ⟨fun _ => ⟨rfl, Fr.rf, hR, h, hf⟩, fun z => absurd (nI_le (by omega) (by omega)) z⟩
  | r + 1, p, l, σ, hl, hi, h, hf, hR => by
    refine S_ModuleReader_content_46 ⟨fun z => absurd z (nI_ge (by omega) (by omega)), fun _ => kFine h hf ⟨fun z => absurd z (by decide), fun _ => ?_⟩⟩
    simp only [sW_id]
    refine kY (hstep l p σ (by omega) hi h hf hR) (fun x q σ1 hP e1 f1 hR1 h1 hf1 => ?_) fun w pl σ1 hP e1 f1 hZ => ?_
    · simp only [sW_eq e1]
      have ih := w_cont46 hm hstep hinv r q (l ++ [x]) σ1 (by rw [List.length_append]; show l.length + 1 + r = m; omega) (hinv l p x q hi hP) h1 hf1 hR1
      have hlen : nI (l ++ [x]).length = nI l.length + 1 := by rw [List.length_append]; exact nI_succ _
      rw [hlen] at ih
      refine ih.mono fun y σ2 hx => ?_
      obtain ⟨rfl, e2, f2, hu⟩ := Qv_s hx
      refine ⟨e2.trans e1, f1.tr f2, ?_⟩
      rw [pMn, hP]
      exact hu
    · simp only [sW_eq e1]
      have fin : (Qv fun σ' => σ'.2.2 = σ.2.2 ∧ YR t n e S Rel (pMn P (r + 1) l p) σ σ') none σ1 := by
        refine ⟨e1, f1, ?_⟩
        rw [pMn, hP]
        exact hZ
      exact S_ModuleReader_content_46 ⟨fun _ => fin, fun _ => zFine hZ ⟨fun _ => fin, fun z => absurd rfl z⟩⟩
theorem w_content {α : Type} {S : Nat → Nat → Bool} {Rel : List α → fkS → Prop} {P : Nat → Rr α} {Inv : List α → Nat → Prop} {id : Int32} {p : Nat} {σ : fkS} (hid : ¬ id = 0) (h : RX t n e p σ) (hf : σ.1 46 3 = 0)
    (hfS : ∀ σ σ', Fr f46 σ σ' → Fr S σ σ') (hR0 : ∀ σ', Fr f46 σ σ' → Rel [] σ') (hi0 : ∀ q, p < q → Inv [] q)
    (hstep : ∀ (l : List α) (p : Nat) (σ : fkS), l.length < 60 → Inv l p → RX t n e p σ → σ.1 46 3 = 0 → Rel l σ → Dv (d + 4) 49 [.ref 45, .ref 24, .int id, .int (nI l.length)] σ (fun σ' => YR t n e S (fun x => Rel (l ++ [x])) (P p) σ σ'))
    (hinv : ∀ l p x q, Inv l p → P p = .inl (x, q) → Inv (l ++ [x]) q) : Dv (d + 5) 47 [.ref 45, .ref 24, .int id] σ (fun σ' => YR t n e S Rel (pVc t e P p) σ σ') := by
  refine S_ModuleReader_content (kFine h hf ⟨fun _ => ⟨fun _ => ?_, fun z => absurd z hid⟩, fun z => absurd z (by decide)⟩)
  simp only [sW_id]
  refine kI h hf (cV h hf) (fun m q x hR hv e1 hR1 hf1 => ?_) fun w pl x σ1 hR hr0 e1 hZ f1 => ?_
  · subst hv
    obtain ⟨-, hm, hq1, -⟩ := nV_l hR
    simp only [sW_okX]
    refine (w_cont46 (d := d) (id := id) hm hstep hinv m q [] (okX σ q) (Nat.zero_add _) (hi0 q hq1) hR1 hf1 (hR0 _ okX_fr)).mono fun y σ2 hx => ?_
    obtain ⟨rfl, e2, f2, hu⟩ := Qv_s hx
    refine ⟨e2, (hfS _ _ okX_fr).tr f2, ?_⟩
    unfold pVc
    rw [hR]
    exact hu
  · subst hr0
    simp only [sW_eq e1]
    refine S_ModuleReader_content_46 ⟨fun _ => ⟨e1, hfS _ _ f1, ?_⟩, fun z => absurd (by decide) z⟩
    unfold pVc
    rw [hR]
    exact hZ
/-! things, by the section's number -/
theorem ti {a : Int32} {k : Int} (h : a.toInt = k) {j : Int} (hj : j ≠ k) (z : a.toInt = j) : False := hj (z.symm.trans h)
def pTab (t : Nat → UInt8) (e p : Nat) : Rr Li := bR (rX 112 t e p) fun _ q => pLi t e q
theorem c_thing1 {p : Nat} {l : List Ty} {σ : fkS} (hl : l.length < 60) (h : RX t n e p σ) (hf : σ.1 46 3 = 0) (hD : DT l σ) : Dv (d + 4) 49 [.ref 45, .ref 24, .int (1 : Int32), .int (nI l.length)] σ (fun σ' => YR t n e sDT (fun x => DT (l ++ [x])) (pTy t e p) σ σ') := by
  refine S_ModuleReader_thing ⟨fun z => absurd z (by decide), fun _ => ?_, fun z => absurd z (by decide), fun z => absurd z (by decide), fun z => absurd z (by decide), fun z => absurd z (by decide), fun z => absurd z (by decide), fun z => absurd z (by decide), trivial⟩
  refine (c_type (d := d) h hf hl hD).mono fun x σ1 hx => ?_
  obtain ⟨rfl, e1, hu⟩ := Qv_s hx
  refine ⟨e1, ?_⟩
  simp only [sW_eq e1]
  exact ⟨e1, hu⟩
theorem c_thing3 {p : Nat} {l : List Nat} {σ : fkS} (hl : l.length < 60) (h : RX t n e p σ) (hf : σ.1 46 3 = 0) (hD : DU l σ) : Dv (d + 4) 49 [.ref 45, .ref 24, .int (3 : Int32), .int (nI l.length)] σ (fun σ' => YR t n e sDU (fun x => DU (l ++ [x])) (nU t e p) σ σ') := by
  refine S_ModuleReader_thing ⟨fun z => absurd z (by decide), fun z => absurd z (by decide), fun z => absurd z (by decide), fun _ => ?_, fun z => absurd z (by decide), fun z => absurd z (by decide), fun z => absurd z (by decide), fun z => absurd z (by decide), trivial⟩
  rw [nI_clamp (by omega)]
  refine kJ h hf (cU h hf) (fun B q r hR hv e1 hR1 hf1 => ?_) fun w pl r σ1 hR hr0 e1 hZ f1 => ?_
  · subst hv
    simp only [sW_okX]
    refine ⟨vp_in_nI hl (by decide), rfl, (okX_fr.f46U.sI rfl).sI rfl, ?_⟩
    rw [hR, lN_i]
    refine ⟨⟨?_, fun k x hx => ?_⟩, (hR1.sI rfl).sI rfl, f0_sI (f0_sI hf1 rfl) rfl⟩
    · rw [sI_ss, List.length_append]
      show σ.1 24 3 + 1 = _
      rw [hD.1]
      exact nI_1 _
    · rw [sI_o (by decide), sI3]
      rcases get_snoc hx with ⟨hx, hk⟩ | ⟨rfl, rfl⟩
      · rw [if_neg (by omega)]
        exact hD.2 k x hx
      · rw [if_pos rfl]
  · subst hr0
    simp only [sW_eq e1]
    refine ⟨vp_in_nI hl (by decide), e1, (f1.f46U.sI rfl).sI rfl, ?_⟩
    rw [hR]
    exact (hZ.sI rfl).sI rfl
theorem c_thing4 {p : Nat} {l : List Li} {σ : fkS} (_hl : l.length < 60) (h : RX t n e p σ) (hf : σ.1 46 3 = 0) (hD : DA l σ) : Dv (d + 4) 49 [.ref 45, .ref 24, .int (4 : Int32), .int (nI l.length)] σ (fun σ' => YR t n e sDA (fun x => DA (l ++ [x])) (pTab t e p) σ σ') := by
  refine S_ModuleReader_thing ⟨fun z => absurd z (by decide), fun z => absurd z (by decide), fun z => absurd z (by decide), fun z => absurd z (by decide), fun _ => ?_, fun z => absurd z (by decide), fun z => absurd z (by decide), fun z => absurd z (by decide), trivial⟩
  have fin : ∀ (σ1 σ2 : fkS) (x : Li), Fr f46 σ σ1 → Fr sL28 σ1 σ2 → DL28 x σ2 → DA (l ++ [x]) (sI σ2 24 5 (σ2.1 24 5 + 1)) := by
    intro σ1 σ2 x f1 f2 hx
    refine ⟨?_, fun y hy => ?_⟩
    · rw [sI_ss, (f2 24 5 rfl).1, (f1 24 5 rfl).1, hD.1, List.length_append]
      exact nI_1 _
    · rw [List.getLast?_concat] at hy
      cases hy
      exact hx
  have fm : ∀ {σ1 σ2 : fkS}, Fr sL28 σ1 σ2 → Fr sDA σ1 σ2 := fun h => h.mono fun c j h => by
    unfold sL28 at h
    unfold sDA
    simp only [Bool.or_eq_true, Bool.and_eq_true] at h ⊢
    grind
  refine kV h hf (c_expect h hf) (fun _ q hR e1 hR1 hf1 => ?_) fun w pl σ1 hR e1 hZ f1 => ?_
  · simp only [sW_okX]
    have hp : pTab t e p = pLi t e q := by unfold pTab; rw [hR]; rfl
    refine kY (c_limits28 (d := d + 1) hR1 hf1) (fun x q2 σ2 hP e2 f2 hx hR2 hf2 => ?_) fun w pl σ2 hP e2 f2 hZ => ?_
    · simp only [sW_eq (show σ2.2.2 = σ.2.2 from e2)]
      refine ⟨e2, (okX_fr.f46A.tr (fm f2)).sI rfl, ?_⟩
      rw [hp, hP]
      exact ⟨fin _ σ2 x okX_fr f2 hx, hR2.sI rfl, f0_sI hf2 rfl⟩
    · simp only [sW_eq (show σ2.2.2 = σ.2.2 from e2)]
      refine ⟨e2, (okX_fr.f46A.tr (fm f2)).sI rfl, ?_⟩
      rw [hp, hP]
      exact hZ.sI rfl
  · simp only [sW_eq e1]
    have hp : pTab t e p = .inr (w, pl) := by unfold pTab; rw [hR]; rfl
    refine S_ModuleReader_limits (zFine hZ ⟨fun z => absurd rfl z, fun _ => ⟨rfl, ?_⟩⟩)
    simp only [sW_id, sW_eq e1]
    refine ⟨e1, f1.f46A.sI rfl, ?_⟩
    rw [hp]
    exact hZ.sI rfl
theorem c_thing5 {p : Nat} {l : List Li} {σ : fkS} (_hl : l.length < 60) (h : RX t n e p σ) (hf : σ.1 46 3 = 0) (hD : DM l σ) : Dv (d + 4) 49 [.ref 45, .ref 24, .int (5 : Int32), .int (nI l.length)] σ (fun σ' => YR t n e sDM (fun x => DM (l ++ [x])) (pLi t e p) σ σ') := by
  refine S_ModuleReader_thing ⟨fun z => absurd z (by decide), fun z => absurd z (by decide), fun z => absurd z (by decide), fun z => absurd z (by decide), fun z => absurd z (by decide), fun _ => ?_, fun z => absurd z (by decide), fun z => absurd z (by decide), trivial⟩
  have fm : ∀ {σ1 σ2 : fkS}, Fr sL29 σ1 σ2 → Fr sDM σ1 σ2 := fun h => h.mono fun c j h => by
    unfold sL29 at h
    unfold sDM
    simp only [Bool.or_eq_true, Bool.and_eq_true] at h ⊢
    grind
  refine kY (c_limits29 (d := d + 1) h hf) (fun x q2 σ2 hP e2 f2 hx hR2 hf2 => ?_) fun w pl σ2 hP e2 f2 hZ => ?_
  · simp only [sW_eq e2]
    refine ⟨e2, (fm f2).sI rfl, ?_⟩
    rw [hP]
    refine ⟨⟨?_, fun y hy => ?_⟩, hR2.sI rfl, f0_sI hf2 rfl⟩
    · rw [sI_ss, (f2 24 7 rfl).1, hD.1, List.length_append]
      exact nI_1 _
    · rw [List.getLast?_concat] at hy
      cases hy
      exact hx
  · simp only [sW_eq e2]
    refine ⟨e2, (fm f2).sI rfl, ?_⟩
    rw [hP]
    exact hZ.sI rfl
theorem c_thing6 {p : Nat} {l : List Gl} {σ : fkS} (hl : l.length < 60) (h : RX t n e p σ) (hf : σ.1 46 3 = 0) (hD : DG l σ) : Dv (d + 4) 49 [.ref 45, .ref 24, .int (6 : Int32), .int (nI l.length)] σ (fun σ' => YR t n e sDG (fun x => DG (l ++ [x])) (pGl t e p) σ σ') := by
  refine S_ModuleReader_thing ⟨fun z => absurd z (by decide), fun z => absurd z (by decide), fun z => absurd z (by decide), fun z => absurd z (by decide), fun z => absurd z (by decide), fun z => absurd z (by decide), fun _ => ?_, fun z => absurd z (by decide), trivial⟩
  refine (c_global (d := d) h hf hl hD).mono fun x σ1 hx => ?_
  obtain ⟨rfl, e1, hu⟩ := Qv_s hx
  refine ⟨e1, ?_⟩
  simp only [sW_eq e1]
  exact ⟨e1, hu⟩
theorem c_thing7 {p : Nat} {l : List Ex} {σ : fkS} (hl : l.length < 60) (h : RX t n e p σ) (hf : σ.1 46 3 = 0) (hD : DE l σ) : Dv (d + 4) 49 [.ref 45, .ref 24, .int (7 : Int32), .int (nI l.length)] σ (fun σ' => YR t n e sDE (fun x => DE (l ++ [x])) (pEx t e p) σ σ') := by
  refine S_ModuleReader_thing ⟨fun z => absurd z (by decide), fun z => absurd z (by decide), fun z => absurd z (by decide), fun z => absurd z (by decide), fun z => absurd z (by decide), fun z => absurd z (by decide), fun z => absurd z (by decide), fun _ => ?_, trivial⟩
  refine (c_export (d := d) h hf hl hD).mono fun x σ1 hx => ?_
  obtain ⟨rfl, e1, hu⟩ := Qv_s hx
  refine ⟨e1, ?_⟩
  simp only [sW_eq e1]
  exact ⟨e1, hu⟩
theorem c_thing9 {p : Nat} {l : List El} {σ : fkS} (hl : l.length < 60) (hp8 : (elAll l).length + 8 ≤ p) (h : RX t n e p σ) (hf : σ.1 46 3 = 0) (hD : DL l σ) : Dv (d + 4) 49 [.ref 45, .ref 24, .int (9 : Int32), .int (nI l.length)] σ (fun σ' => YR t n e sDL (fun x => DL (l ++ [x])) (pEl t e p) σ σ') := by
  refine S_ModuleReader_thing ⟨fun _ => ?_, fun z => absurd z (by decide), fun z => absurd z (by decide), fun z => absurd z (by decide), fun z => absurd z (by decide), fun z => absurd z (by decide), fun z => absurd z (by decide), fun z => absurd z (by decide), trivial⟩
  refine (c_element (d := d) h hf hl hp8 hD).mono fun x σ1 hx => ?_
  obtain ⟨rfl, e1, hu⟩ := Qv_s hx
  refine ⟨e1, ?_⟩
  simp only [sW_eq e1]
  exact ⟨e1, hu⟩
theorem pEl_le {p q : Nat} {x : El} (h : pEl t e p = .inl (x, q)) : p + x.2.2.length ≤ q ∧ x.2.2.length ≤ 60 := by
  unfold pEl at h
  obtain ⟨z, p1, h1, h⟩ := bR_inl h
  split at h
  · unfold pEl2 at h
    obtain ⟨c, p2, h2, h⟩ := bR_inl h
    unfold pEl3 at h
    obtain ⟨m, p3, h3, h⟩ := bR_inl h
    obtain ⟨l, p4, h4, h⟩ := bR_inl h
    cases h
    unfold pCo at h2
    obtain ⟨op, q1, h5, h2⟩ := bR_inl h2
    obtain ⟨v, q2, h6, h2⟩ := bR_inl h2
    cases h2
    have := nU_q h1
    have := pOp_lt h5
    have := pCv_le h6
    have := nV_l h3
    have := pFs_len _ _ _ _ h4
    constructor
    · show p + l.length ≤ q
      omega
    · show l.length ≤ 60
      omega
  · cases h
end SECX
