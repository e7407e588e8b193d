/-! THE REFERENCE lays the turns of a PROGRAM -/
def agZ (t : Nat → UInt8) : List AD → List (List Nat × Nat) → List (List Nat × Nat)
  | [], e => e
  | a :: L, e => agZ t L ((nmT t a.1 a.2.1, 0) :: e)
theorem agZ_len {t : Nat → UInt8} : ∀ (L : List AD) (e : List (List Nat × Nat)), (agZ t L e).length = L.length + e.length
  | [], e => by show e.length = 0 + e.length; omega
  | a :: L, e => by show (agZ t L _).length = L.length + 1 + e.length; rw [agZ_len L, List.length_cons]; omega
/-- INTS alone -/
def inZ : List AD → Nat → Nat
  | [], v => v
  | a :: L, v => inZ L (if a.2.2 = 1 then v else 0)
def inZq (q : FD) : Nat := inZ q.2.1 (if q.2.2.1 = 1 then 1 else 0)
/-- the turns of DEFINITIONS, where each begins -/
def tgD (t : Nat → UInt8) (D : List FD) : List FD → Nat → List tE
  | [], _ => []
  | q :: R, p => tgT t D q.2.2.2.2 p (agZ t q.2.1 []) ++ (11, 0, 0) :: tgD t D R (p + lnT q.2.2.2.2 + 1)
def lnTD : List FD → Nat
  | [] => 0
  | q :: R => lnT q.2.2.2.2 + 1 + lnTD R
theorem tgD_len {t : Nat → UInt8} {D : List FD} : ∀ (R : List FD) (p : Nat), (tgD t D R p).length = lnTD R
  | [], _ => rfl
  | q :: R, p => by
    show (tgT t D q.2.2.2.2 p (agZ t q.2.1 []) ++ (11, 0, 0) :: tgD t D R (p + lnT q.2.2.2.2 + 1)).length = lnT q.2.2.2.2 + 1 + lnTD R
    rw [List.length_append, tg_len, List.length_cons, tgD_len R]
    omega
theorem tgD_app {t : Nat → UInt8} {D : List FD} {q : FD} : ∀ (P : List FD) (p : Nat), tgD t D (P ++ [q]) p = tgD t D P p ++ (tgT t D q.2.2.2.2 (p + lnTD P) (agZ t q.2.1 []) ++ [(11, 0, 0)])
  | [], p => rfl
  | x :: P, p => by
    show tgT t D x.2.2.2.2 p (agZ t x.2.1 []) ++ (11, 0, 0) :: tgD t D (P ++ [q]) (p + lnT x.2.2.2.2 + 1) = (tgT t D x.2.2.2.2 p (agZ t x.2.1 []) ++ (11, 0, 0) :: tgD t D P (p + lnT x.2.2.2.2 + 1)) ++ _
    rw [tgD_app P, show p + lnTD (x :: P) = p + lnT x.2.2.2.2 + 1 + lnTD P by show p + (lnT x.2.2.2.2 + 1 + lnTD P) = _; omega, List.append_assoc, List.cons_append]
theorem lnTD_app : ∀ (P R : List FD), lnTD (P ++ R) = lnTD P + lnTD R
  | [], R => by show lnTD R = 0 + lnTD R; omega
  | q :: P, R => by show lnT q.2.2.2.2 + 1 + lnTD (P ++ R) = lnT q.2.2.2.2 + 1 + lnTD P + lnTD R; rw [lnTD_app P R]; omega
theorem lnTD_sz {t : Nat → UInt8} {n : Nat} : ∀ D : List FD, (∀ q ∈ D, okD t n q) → lnTD D ≤ 3 * szD D
  | [], _ => Nat.le_refl _
  | q :: D, h => by
    have h1 := (lnT_sz _ _ _ _ _ (h q List.mem_cons_self).2.2.2.2.2.1).1 rfl
    have h2 := lnTD_sz D (fun r hr => h r (List.mem_cons_of_mem _ hr))
    show lnT q.2.2.2.2 + 1 + lnTD D ≤ 3 * (sz q.2.2.2.2 + szD D)
    omega
/-- where FUNCTIONS begin, how many ARGUMENTS, INTS alone: of P, in the rows of FUNCTIONS -/
def TP (P : List FD) (σ : fkS) : Prop := ∀ A q Z, P = A ++ q :: Z → σ.1 183 A.length = nI (lnTD A) ∧ σ.1 184 A.length = nI q.2.1.length ∧ σ.1 185 A.length = nI (inZq q)
def fkTP (c j : Nat) : Bool := fkTC c j || (Nat.ble 183 c && Nat.ble c 185)
section TPs
variable {t : Nat → UInt8} {n d mm : Nat} {D : List FD} {e : List (List Nat × Nat)} {w : Option Nat} {σ σ' : fkS} {L : List tE} {P : List FD} {Q : Option Value → fkS → Prop}
theorem fkTC_in {c j : Nat} (h : fkTC c j = true) : (c = 103 ∧ (j = 81 ∨ j = 117 ∨ j = 118 ∨ j = 125)) ∨ (177 ≤ c ∧ c ≤ 182) := by
  unfold fkTC fkCK fkTL at h
  simp only [Bool.or_eq_true, Bool.and_eq_true, Nat.beq_eq, Nat.ble_eq] at h
  omega
theorem fkTC_not {c j : Nat} (h : 183 ≤ c) : fkTC c j = false := by
  cases e : fkTC c j
  · rfl
  · have := fkTC_in e
    omega
theorem Fr.tp2 (h : Fr fkTC σ σ') : Fr fkTP σ σ' := h.mono fun c j q => by unfold fkTP; rw [q]; rfl
theorem TP.tc (h : TP P σ) (hf : Fr fkTC σ σ') : TP P σ' := fun A q Z hP => by
  obtain ⟨a1, a2, a3⟩ := h A q Z hP
  exact ⟨(hf 183 _ (fkTC_not (by omega))).1.trans a1, (hf 184 _ (fkTC_not (by omega))).1.trans a2, (hf 185 _ (fkTC_not (by omega))).1.trans a3⟩
/-- what a row of FUNCTIONS does not touch -/
def fkRW (c _ : Nat) : Bool := Nat.ble 183 c && Nat.ble c 185
theorem CM.rw2 (h : CM t n D mm e w σ) (hf : Fr fkRW σ σ') : CM t n D mm e w σ' := by
  have hs : ∀ {c j : Nat}, c ≤ 182 → fkRW c j = false := fun {c j} hc => by
    cases e : fkRW c j
    · rfl
    · unfold fkRW at e
      simp only [Bool.and_eq_true, Nat.ble_eq] at e
      omega
  obtain ⟨⟨h1, h2, h3, h4, h5, h6⟩, g2, g3, g4, g5, g6, g7⟩ := h
  refine ⟨⟨⟨(hf 103 79 (hs (by omega))).1.trans h1.1, fun k hk => (hf 154 k (hs (by omega))).1.trans (h1.2.1 k hk), h1.2.2⟩, fun i q hq => ?_, h3, (hf 103 97 (hs (by omega))).1.trans h4, h5, h6⟩, fun i q hq => ?_, (hf 103 117 (hs (by omega))).1.trans g3, g4, g5, (hf 103 81 (hs (by omega))).1.trans g6, g7⟩
  · obtain ⟨a1, a2, a3, a4, a5, a6, a7, a8⟩ := h2 i q hq
    refine ⟨(hf 155 i (hs (by omega))).1.trans a1, (hf 156 i (hs (by omega))).1.trans a2, (hf 157 i (hs (by omega))).1.trans a3, (hf 158 i (hs (by omega))).1.trans a4, (hf 160 i (hs (by omega))).1.trans a5, a6, fun k a ha => ?_, ?_⟩
    · obtain ⟨b1, b2, b3⟩ := a7 k a ha
      exact ⟨(hf 161 _ (hs (by omega))).1.trans b1, (hf 162 _ (hs (by omega))).1.trans b2, (hf 163 _ (hs (by omega))).1.trans b3⟩
    · rw [(hf 159 i (hs (by omega))).1]
      exact At.fr (Nat.le_refl _) (Nat.le_refl _) (fun c j a1 a2 _ _ => (hf c j (hs (by omega))).1) _ _ _ a8
  · obtain ⟨a, z, b1, b2, b3, b4, b5⟩ := g2 i q hq
    exact ⟨a, z, (hf 177 i (hs (by omega))).1.trans b1, (hf 178 i (hs (by omega))).1.trans b2, b3, b4, (hf 179 i (hs (by omega))).1.trans b5⟩
theorem TM.rw2 (h : TM L σ) (hf : Fr fkRW σ σ') : TM L σ' := by
  refine ⟨(hf 103 125 rfl).1.trans h.1, h.2.1, fun i q hq => ?_⟩
  obtain ⟨a1, a2, a3⟩ := h.2.2 i q hq
  rw [(hf 180 i rfl).1, (hf 181 i rfl).1, (hf 182 i rfl).1]
  exact ⟨a1, a2, a3⟩
theorem Fr.rw3 (h : Fr fkRW σ σ') : Fr fkTP σ σ' := h.mono fun c j q => by
  unfold fkRW at q
  unfold fkTP
  rw [q, Bool.or_true]
/-- ARGUMENTS are bound -/
theorem l_242 {f : Nat} {q : FD} (hq : D[f]? = some q) : ∀ (R A : List AD) (e : List (List Nat × Nat)) (v : Nat) (σ1 : fkS), q.2.1 = A ++ R → e.length = A.length → v ≤ 1 → CM t n D mm e w σ1 → TM L σ1 → TP P σ1 → P.length = f → σ1.1 183 f = nI (lnTD P) → σ1.1 184 f = nI q.2.1.length → σ1.1 185 f = nI v → (∀ σ', CM t n D mm (agZ t R e) w σ' → TM L σ' → TP P σ' → σ'.1 183 f = nI (lnTD P) → σ'.1 184 f = nI q.2.1.length → σ'.1 185 f = nI (inZ R v) → Fr fkTP σ1 σ' → Cv d 360 [.ref 103, .int (σ'.1 159 f)] σ' (fun σ1 =>
    (Ci d 361 [.ref 103, .int (11 : Int32), .int (0 : Int32), .int (0 : Int32)] σ1 (fun _ σ2 =>
    Wq 324 (d + 1) 182 [some (.ref 103), none, some (.int (nI f + (1 : Int32))), none] [] σ2 Q)))) → Wq 324 (d + 1) 242 [some (.ref 103), none, some (.int (nI f)), some (.int (nI (4 * f + A.length)))] [] σ1 Q := by
  intro R
  induction R with
  | nil =>
    intro A e v σ1 hA he hv h hL hT hPf r1 r2 r3 go
    obtain ⟨-, hM, -, -, h20, -⟩ := h.1
    obtain ⟨-, -, a3, -⟩ := hM f q hq
    have fl : f < D.length := (List.getElem?_eq_some_iff.mp hq).1
    have el : q.2.1.length = A.length := by rw [hA, List.append_nil]
    have cf : (nI f).toNatClampNeg = f := nI_clamp (by omega)
    have vf : vp_in (nI f) 20 := vp_in_nI (by omega) (by decide)
    have e1 : ((4 : Int32) * nI f) + nI A.length = nI (4 * f + A.length) := by rw [show (4 : Int32) = nI 4 from rfl, nI_mul, nI_add]
    refine S_M_program_242 ?_
    rw [cf, a3, el, e1]
    exact ⟨vf, fun _ => ⟨vf, go σ1 h hL hT r1 r2 r3 Fr.rf⟩, fun y => absurd (Int32.le_refl _) y⟩
  | cons a R ih =>
    intro A e v σ1 hA he hv h hL hT hPf r1 r2 r3 go
    obtain ⟨-, hM, -, -, h20, hok⟩ := h.1
    obtain ⟨-, -, a3, -, -, a6, a7, -⟩ := hM f q hq
    have fl : f < D.length := (List.getElem?_eq_some_iff.mp hq).1
    have el : q.2.1.length = A.length + (R.length + 1) := by rw [hA, List.length_append, List.length_cons]
    have ha : q.2.1[A.length]? = some a := by rw [hA]; exact mid_a
    obtain ⟨b1, b2, b3⟩ := a7 _ a ha
    obtain ⟨o1, o2, o3⟩ := (hok q (List.mem_of_getElem? hq)).2.2.1 _ (List.mem_of_getElem? ha)
    have on := nm_in o1
    have cf : (nI f).toNatClampNeg = f := nI_clamp (by omega)
    have vf : vp_in (nI f) 20 := vp_in_nI (by omega) (by decide)
    have e1 : ((4 : Int32) * nI f) + nI q.2.1.length = nI (4 * f + q.2.1.length) := by rw [show (4 : Int32) = nI 4 from rfl, nI_mul, nI_add]
    have cp : (nI (4 * f + A.length)).toNatClampNeg = 4 * f + A.length := nI_clamp (by omega)
    have vp : vp_in (nI (4 * f + A.length)) 80 := vp_in_nI (by omega) (by decide)
    refine S_M_program_242 ?_
    rw [cf, a3, e1, cp, b1, b2, (nI_succ (4 * f + A.length)).symm]
    refine ⟨vf, fun y => absurd y (nI_ge (by omega) (by omega)), fun _ => ⟨vp, vp, ?_⟩⟩
    refine vV (k_bind (ty := 0) h (by omega) on.1 (by decide)) fun σ2 ⟨h2, f2⟩ => ⟨vp, ?_⟩
    have f2' : Fr fkTC σ1 σ2 := f2.ck2
    rw [(f2' 163 _ (fkTC_no (by omega))).1, b3]
    have t1 : nI a.2.2 = (1 : Int32) ↔ a.2.2 = 1 := nI_eq (b := 1) (by omega) (by decide)
    rw [t1]
    have lA : (A ++ [a]).length = A.length + 1 := by rw [List.length_append]; rfl
    have s1 : σ2.1 183 f = nI (lnTD P) := (f2' 183 _ (fkTC_not (by omega))).1.trans r1
    have s2 : σ2.1 184 f = nI q.2.1.length := (f2' 184 _ (fkTC_not (by omega))).1.trans r2
    have s3 : σ2.1 185 f = nI v := (f2' 185 _ (fkTC_not (by omega))).1.trans r3
    refine ⟨fun y => ?_, fun y => ⟨vf, ?_⟩⟩
    · have g := ih (A ++ [a]) _ v σ2 (by rw [hA, List.append_assoc]; rfl) (by rw [List.length_cons, he, lA]) hv h2 (hL.ck f2) (hT.tc f2') hPf s1 s2 s3
      rw [lA] at g
      refine g fun σ' k1 k2 k3 k4 k5 k6 k7 => go σ' k1 k2 k3 k4 k5 ?_ (f2'.tp2.tr k7)
      rw [inZ, if_pos y]
      exact k6
    · have f3 : Fr fkRW σ2 (sI σ2 185 f (0 : Int32)) := Fr.rf.sI rfl
      have g := ih (A ++ [a]) _ 0 (sI σ2 185 f (0 : Int32)) (by rw [hA, List.append_assoc]; rfl) (by rw [List.length_cons, he, lA]) (by omega) (h2.rw2 f3) ((hL.ck f2).rw2 f3) (fun B r Z hB => ?_) hPf ((congrFun (sI_o (by decide)) _).trans s1) ((congrFun (sI_o (by decide)) _).trans s2) sI_ss
      · rw [lA] at g
        refine g fun σ' k1 k2 k3 k4 k5 k6 k7 => go σ' k1 k2 k3 k4 k5 ?_ ((f2'.tp2.tr f3.rw3).tr k7)
        rw [inZ, if_neg y]
        exact k6
      · obtain ⟨c1, c2, c3⟩ := (hT.tc f2') B r Z hB
        have bl : B.length < f := by rw [← hPf, hB, List.length_append, List.length_cons]; omega
        exact ⟨(congrFun (sI_o (by decide)) _).trans c1, (congrFun (sI_o (by decide)) _).trans c2, (sI_so (by omega)).trans c3⟩
/-- each DEFINITION's turns -/
theorem l_182 (hn : n ≤ 4000) (hm : mm ≤ 3000) (hz : szD D ≤ 400) (hd : 1605 ≤ d) : ∀ (R P : List FD) (σ : fkS), D = P ++ R → KMm t n D mm none σ → TM (tgD t D P 0) σ → TP P σ → (∀ σ', KMm t n D mm none σ' → TM (tgD t D D 0) σ' → TP D σ' → Fr fkTP σ σ' → Q (some (.int (nI D.length))) σ') → Wq 324 (d + 1) 182 [some (.ref 103), none, some (.int (nI P.length)), none] [] σ Q := by
  intro R
  induction R with
  | nil =>
    intro P σ hD h hL hT go
    have eP : P = D := by rw [hD, List.append_nil]
    subst eP
    refine S_M_program_182 ?_
    rw [h.1.2.2.2.1]
    exact ⟨fun _ => go σ h hL hT Fr.rf, fun y => absurd (Int32.le_refl _) y⟩
  | cons q R ih =>
    intro P σ hD h hL hT go
    have dl : D.length = P.length + (R.length + 1) := by rw [hD, List.length_append, List.length_cons]
    have hq : D[P.length]? = some q := by rw [hD]; exact mid_a
    have hqm : q ∈ D := List.mem_of_getElem? hq
    have h20 := h.1.2.2.2.2.1
    have hok := h.1.2.2.2.2.2
    have ok := hok q hqm
    have zq := szD_mem D hqm
    have sD := lnTD_sz D hok
    have lD : lnTD D = lnTD P + (lnT q.2.2.2.2 + 1 + lnTD R) := by rw [hD, lnTD_app]; rfl
    have tl := tgD_len (t := t) (D := D) P 0
    obtain ⟨-, -, a3, a4, -⟩ := h.1.2.1 _ q hq
    have cf : (nI P.length).toNatClampNeg = P.length := nI_clamp (by omega)
    have vf : vp_in (nI P.length) 20 := vp_in_nI (by omega) (by decide)
    have g1 : (nI q.2.2.1 = (1 : Int32)) ↔ q.2.2.1 = 1 := nI_eq (b := 1) (by have := ok.2.2.2.1.2; omega) (by decide)
    have key : ∀ v : Nat, v ≤ 1 → inZq q = inZ q.2.1 v → Wq 324 (d + 1) 242 [some (.ref 103), none, some (.int (nI P.length)), some (.int ((4 : Int32) * nI P.length))] [] (sI (sI (sI (sI σ 103 117 (0 : Int32)) 183 P.length (σ.1 103 125)) 184 P.length (nI q.2.1.length)) 185 P.length (nI v)) Q := by
      intro v hv hi
      obtain ⟨c0, f0⟩ := h.cm
      have l0 := hL.ck f0
      have t0 := hT.tc f0.ck2
      have e125 : σ.1 103 125 = nI (lnTD P) := by rw [hL.1, tl]
      rw [e125]
      have fr : Fr fkRW (sI σ 103 117 (0 : Int32)) (sI (sI (sI (sI σ 103 117 (0 : Int32)) 183 P.length (nI (lnTD P))) 184 P.length (nI q.2.1.length)) 185 P.length (nI v)) := ((Fr.rf.sI rfl).sI rfl).sI rfl
      have ft : Fr fkTP σ (sI (sI (sI (sI σ 103 117 (0 : Int32)) 183 P.length (nI (lnTD P))) 184 P.length (nI q.2.1.length)) 185 P.length (nI v)) := f0.ck2.tp2.tr fr.rw3
      have e4 : ((4 : Int32) * nI P.length) = nI (4 * P.length + ([] : List AD).length) := by rw [show (4 : Int32) = nI 4 from rfl, nI_mul]; rfl
      rw [e4]
      refine l_242 (L := tgD t D P 0) (P := P) hq q.2.1 [] [] v _ rfl rfl hv (c0.rw2 fr) (l0.rw2 fr) (fun B r Z hB => ?_) rfl ((congrFun (sI_o (by decide)) _).trans ((congrFun (sI_o (by decide)) _).trans sI_ss)) ((congrFun (sI_o (by decide)) _).trans sI_ss) sI_ss fun σ1 k1 k2 k3 k4 k5 k6 k7 => ?_
      · obtain ⟨c1, c2, c3⟩ := t0 B r Z hB
        have bl : B.length < P.length := by rw [hB, List.length_append, List.length_cons]; omega
        exact ⟨(congrFun (sI_o (by decide)) _).trans ((congrFun (sI_o (by decide)) _).trans ((sI_so (by omega)).trans c1)), (congrFun (sI_o (by decide)) _).trans ((sI_so (by omega)).trans ((congrFun (sI_o (by decide)) _).trans c2)), (sI_so (by omega)).trans ((congrFun (sI_o (by decide)) _).trans ((congrFun (sI_o (by decide)) _).trans c3))⟩
      · obtain ⟨-, -, -, -, -, -, -, a8⟩ := k1.1.2.1 _ q hq
        have dp := (dpt_sz _ _ _ _ _ ok.2.2.2.2.2.1).1 rfl
        have ze := agZ_len (t := t) q.2.1 []
        have a4' := ok.2.1.2
        have n60 := ok.2.2.2.2.2.2.2.1
        refine vV ((tn_all hm q.2.2.2.2).1 d _ none _ (lnTD P) σ1 _ tl.symm (by omega) ok.2.2.2.2.2.1 (by omega) a8 k1 k2 (by omega) (by rw [ze, List.length_nil]; omega)) fun σ2 ⟨h2, l2, f2⟩ => ?_
        refine vI (tn_lay h2 l2 (by rw [List.length_append, tl, tg_len]; omega) (Or.inr (Or.inr rfl))) fun x σ3 ⟨_, h3, l3, f3⟩ => ?_
        have f13 := f2.tr f3
        rw [← nI_succ]
        have l3' : TM (tgD t D (P ++ [q]) 0) σ3 := l3.cs (by rw [tgD_app, Nat.zero_add, List.append_assoc])
        have t3 := k3.tc f13
        have g := ih (P ++ [q]) σ3 (by rw [hD, List.append_assoc]; rfl) ⟨h3.1, h3.2.2.2.2.2.1, h3.2.2.2.2.2.2⟩ l3' (fun A r Z hA => ?_) fun s s1 s2 s3 s4 => go s s1 s2 s3 (((ft.tr k7).tr f13.tp2).tr s4)
        · rw [List.length_append] at g
          exact g
        · rcases List.eq_nil_or_concat Z with rfl | ⟨Z', z, rfl⟩
          · have hA2 : P ++ [q] = A ++ [r] := hA
            obtain ⟨e1, e2⟩ := List.append_inj' hA2 rfl
            have e3 : q = r := by cases e2; rfl
            subst e1
            subst e3
            refine ⟨(f13 183 _ (fkTC_not (by omega))).1.trans k4, (f13 184 _ (fkTC_not (by omega))).1.trans k5, (f13 185 _ (fkTC_not (by omega))).1.trans ?_⟩
            rw [hi]
            exact k6
          · have hA2 : P ++ [q] = (A ++ r :: Z') ++ [z] := by rw [hA, List.append_assoc, List.concat_eq_append]; rfl
            exact t3 A r Z' (List.append_inj' hA2 rfl).1
    refine S_M_program_182 ?_
    rw [h.1.2.2.2.1, cf, a3, a4, g1]
    refine ⟨fun y => absurd y (nI_ge (by omega) (by omega)), fun _ => ⟨vf, vf, vf, vf, fun y => ⟨vf, ?_⟩, fun y => ⟨vf, ?_⟩⟩⟩
    · exact key 0 (by decide) (by unfold inZq; rw [if_neg y])
    · exact key 1 (by decide) (by unfold inZq; rw [if_pos y])
end TPs
