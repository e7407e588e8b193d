/-! THE CLASS reads DEFINITIONS, a PROGRAM -/
/-- the CODE of DEFINITIONS -/
def cDf (t : Nat → UInt8) : List FD → Nat → List cdE
  | [], _ => []
  | q :: D, p => cr t q.2.2.2.2 p ++ (17, 0, nI q.2.2.2.1, 0) :: cDf t D (p + ln q.2.2.2.2 + 1)
def lnD : List FD → Nat
  | [] => 0
  | q :: D => ln q.2.2.2.2 + 1 + lnD D
def stD : List FD → Nat → Nat
  | [], _ => 0
  | _ :: _, 0 => 0
  | q :: D, i + 1 => ln q.2.2.2.2 + 1 + stD D i
/-- the rows of ARGUMENTS of DEFINITION f -/
def aR (t : Nat → UInt8) (f : Nat) (L : List (Nat × Nat × Nat)) (σ : fkS) : Prop := ∀ k a, L[k]? = some a → σ.2.1 81 (4 * f + k) = wv t a.1 a.2.1 ∧ σ.1 82 (4 * f + k) = nI a.1 ∧ σ.1 83 (4 * f + k) = nI a.2.2
/-- the rows of DEFINITIONS -/
def dR (t : Nat → UInt8) (D : List FD) (σ : fkS) : Prop := ∀ i q, D[i]? = some q → σ.2.1 76 i = wv t q.1.1 q.1.2 ∧ σ.1 77 i = nI q.1.1 ∧ σ.1 78 i = nI q.2.1.length ∧ σ.1 79 i = nI q.2.2.1 ∧ σ.1 80 i = nI (stD D i) ∧ q.2.1.length ≤ 4 ∧ aR t i q.2.1 σ
/-- what reading DEFINITION f changes -/
def fkDX (f c j : Nat) : Bool := fkPP c j || (Nat.ble 76 c && Nat.ble c 80 && Nat.beq j f) || (Nat.ble 81 c && Nat.ble c 83 && Nat.ble (4 * f) j) || (Nat.beq c 75 && Nat.beq j 0)
/-- what reading its ARGUMENTS changes -/
def fkDA (f c j : Nat) : Bool := fkPP c j || (Nat.ble 81 c && Nat.ble c 83 && Nat.ble (4 * f) j)
/-- what stands in the rows of DEFINITIONS -/
def fkDR (c j : Nat) : Bool := (Nat.ble 76 c && Nat.ble c 83) || (Nat.beq c 75 && Nat.beq j 0)
section CDE
variable {t : Nat → UInt8}
theorem cDf_len : ∀ (D : List FD) (p : Nat), (cDf t D p).length = lnD D
  | [], _ => rfl
  | q :: D, p => by
    show (cr t q.2.2.2.2 p ++ (17, 0, nI q.2.2.2.1, 0) :: cDf t D (p + ln q.2.2.2.2 + 1)).length = ln q.2.2.2.2 + 1 + lnD D
    rw [List.length_append, cr_len, List.length_cons, cDf_len D]
    omega
theorem cDf_app (q : FD) : ∀ (D : List FD) (p : Nat), cDf t (D ++ [q]) p = cDf t D p ++ (cr t q.2.2.2.2 (p + lnD D) ++ [(17, 0, nI q.2.2.2.1, 0)])
  | [], p => rfl
  | r :: D, p => by
    show cr t r.2.2.2.2 p ++ (17, 0, nI r.2.2.2.1, 0) :: cDf t (D ++ [q]) (p + ln r.2.2.2.2 + 1) = (cr t r.2.2.2.2 p ++ (17, 0, nI r.2.2.2.1, 0) :: cDf t D (p + ln r.2.2.2.2 + 1)) ++ (cr t q.2.2.2.2 (p + (ln r.2.2.2.2 + 1 + lnD D)) ++ [(17, 0, nI q.2.2.2.1, 0)])
    rw [cDf_app q D, show p + ln r.2.2.2.2 + 1 + lnD D = p + (ln r.2.2.2.2 + 1 + lnD D) by omega]
    simp only [List.append_assoc, List.cons_append]
theorem stD_lt (q : FD) : ∀ (D : List FD) (i : Nat), i < D.length → stD (D ++ [q]) i = stD D i
  | [], i, h => by simp at h
  | r :: D, 0, _ => rfl
  | r :: D, i + 1, h => by
    show ln r.2.2.2.2 + 1 + stD (D ++ [q]) i = ln r.2.2.2.2 + 1 + stD D i
    rw [stD_lt q D i (by simpa using h)]
theorem stD_at (q : FD) : ∀ (D : List FD), stD (D ++ [q]) D.length = lnD D
  | [] => rfl
  | r :: D => by
    show ln r.2.2.2.2 + 1 + stD (D ++ [q]) D.length = ln r.2.2.2.2 + 1 + lnD D
    rw [stD_at q D]
end CDE
section DX
variable {t : Nat → UInt8} {n d f : Nat} {σ0 σ : fkS} {s : PS} {C : List cdE}
theorem fkPP_no {c j : Nat} (h : fkDR c j = true) : fkPP c j = false := by
  unfold fkDR at h
  cases e : fkPP c j
  · rfl
  · unfold fkPP fkPC fkPE fkPA fkCR at e
    simp only [Bool.or_eq_true, Bool.and_eq_true, Nat.beq_eq, Nat.ble_eq] at h e
    omega
theorem aR.fr {f' : Nat} {L : List (Nat × Nat × Nat)} {σ' : fkS} (h : aR t f' L σ) (hL : L.length ≤ 4) (hf' : f' < f) (hf : Fr (fkDX f) σ σ') : aR t f' L σ' := by
  intro k a ha
  obtain ⟨h1, h2, h3⟩ := h k a ha
  have hk := (List.getElem?_eq_some_iff.mp ha).1
  have e : ∀ c, 81 ≤ c → c ≤ 83 → fkDX f c (4 * f' + k) = false := by
    intro c c1 c2
    have e1 : fkPP c (4 * f' + k) = false := fkPP_no (by unfold fkDR; rw [Nat.ble_eq.mpr (show 76 ≤ c by omega), Nat.ble_eq.mpr c2]; rfl)
    have e2 : Nat.beq (4 * f' + k) f = false ∨ Nat.ble c 80 = false := Or.inr (Bool.eq_false_iff.mpr fun z => by have := Nat.ble_eq.mp z; omega)
    have e3 : Nat.ble (4 * f) (4 * f' + k) = false := Bool.eq_false_iff.mpr fun z => by have := Nat.ble_eq.mp z; omega
    have e4 : Nat.beq c 75 = false := beq_ne (by omega)
    have e5 : Nat.ble c 80 = false := Bool.eq_false_iff.mpr fun z => by have := Nat.ble_eq.mp z; omega
    unfold fkDX
    rw [e1, e3, e4, e5]
    simp
  exact ⟨(hf 81 _ (e 81 (by decide) (by decide))).2.1.trans h1, (hf 82 _ (e 82 (by decide) (by decide))).1.trans h2, (hf 83 _ (e 83 (by decide) (by decide))).1.trans h3⟩
theorem dR.fr {D : List FD} {σ' : fkS} (h : dR t D σ) (hf : Fr (fkDX f) σ σ') (hl : D.length ≤ f) : dR t D σ' := by
  intro i q hq
  obtain ⟨h1, h2, h3, h4, h5, h6, h7⟩ := h i q hq
  have hi := (List.getElem?_eq_some_iff.mp hq).1
  have e : ∀ c, 76 ≤ c → c ≤ 80 → fkDX f c i = false := by
    intro c c1 c2
    have e1 : fkPP c i = false := fkPP_no (by unfold fkDR; rw [Nat.ble_eq.mpr c1, Nat.ble_eq.mpr (show c ≤ 83 by omega)]; rfl)
    have e2 : Nat.beq i f = false := beq_ne (by omega)
    have e3 : Nat.ble 81 c = false := Bool.eq_false_iff.mpr fun z => by have := Nat.ble_eq.mp z; omega
    have e4 : Nat.beq c 75 = false := beq_ne (by omega)
    unfold fkDX
    rw [e1, e2, e3, e4]
    simp
  exact ⟨(hf 76 _ (e 76 (by decide) (by decide))).2.1.trans h1, (hf 77 _ (e 77 (by decide) (by decide))).1.trans h2, (hf 78 _ (e 78 (by decide) (by decide))).1.trans h3, (hf 79 _ (e 79 (by decide) (by decide))).1.trans h4, (hf 80 _ (e 80 (by decide) (by decide))).1.trans h5, h6, h7.fr h6 (by omega) hf⟩
/-- seen from itself -/
theorem PC.base (h : PC t n σ0 s C σ) : PC t n σ s C σ := ⟨h.1, h.2.1, h.2.2.1, rfl, h.r0, Fr.rf, h.2.2.2.2.2.2⟩
/-- rows of DEFINITIONS are stored -/
theorem PC.dr {σ' : fkS} (h : PC t n σ0 s C σ) (hr : σ'.2.2 = σ.2.2) (hf : Fr fkDR σ σ') : PC t n σ' s C σ' := by
  obtain ⟨h1, h2, h3, h4, h5, h6, h7⟩ := h
  refine ⟨h1.fg hf rfl rfl rfl rfl rfl rfl (fun _ => rfl) (fun _ => rfl) (fun _ => rfl), h2.fg hf rfl (fun _ => rfl) (fun _ => rfl) (fun _ => rfl) (fun _ => rfl), (hf 88 12 rfl).1.trans h3, rfl, ?_, Fr.rf, h7⟩
  rw [hr, h4]
  exact h5
theorem Fr.pd {σ' : fkS} (h : Fr fkPP σ σ') : Fr (fkDX f) σ σ' := h.mono fun c j q => by unfold fkDX; rw [q]; rfl
theorem PC.pp (h : PC t n σ0 s C σ) : Fr (fkDX f) σ0 σ := h.2.2.2.2.2.1.pd
theorem fkDX_1 {c : Nat} (h1 : 76 ≤ c) (h2 : c ≤ 80) : fkDX f c f = true := by
  unfold fkDX
  rw [Nat.ble_eq.mpr h1, Nat.ble_eq.mpr h2, Nat.beq_refl]
  simp
theorem fkDX_2 {c j : Nat} (h1 : 81 ≤ c) (h2 : c ≤ 83) (h3 : 4 * f ≤ j) : fkDX f c j = true := by
  unfold fkDX
  rw [Nat.ble_eq.mpr h1, Nat.ble_eq.mpr h2, Nat.ble_eq.mpr h3]
  simp
theorem fkDX_3 : fkDX f 75 0 = true := by
  unfold fkDX
  simp
theorem fkDR_1 {c j : Nat} (h1 : 76 ≤ c) (h2 : c ≤ 83) : fkDR c j = true := by
  unfold fkDR
  rw [Nat.ble_eq.mpr h1, Nat.ble_eq.mpr h2]
  rfl
theorem x_type (h : PC t n σ0 s C σ) : Di (d + 1) 187 [.ref 88] σ (fun x σ' => x = nI (pTyp t n s).2 ∧ PC t n σ0 (pTyp t n s).1 C σ') := by
  refine (p_type h.1).mono fun x s2 hx => ?_
  obtain ⟨v, rfl, g0, g1, g2, g3⟩ := Qi_s hx
  exact ⟨g0, g2, h.e g0 g1 g3 rfl fun z => (pTyp_inv z).1⟩
theorem Fr.pa {σ' : fkS} (h : Fr fkPP σ σ') : Fr (fkDA f) σ σ' := h.mono fun c j q => by unfold fkDA; rw [q]; rfl
theorem Fr.da {σ' : fkS} (h : Fr (fkDA f) σ σ') : Fr (fkDX f) σ σ' := h.mono fun c j q => by
  unfold fkDA at q
  unfold fkDX
  simp only [Bool.or_eq_true] at q ⊢
  rcases q with q | q
  · exact Or.inl (Or.inl (Or.inl q))
  · exact Or.inl (Or.inr q)
theorem fkDA_2 {c j : Nat} (h1 : 81 ≤ c) (h2 : c ≤ 83) (h3 : 4 * f ≤ j) : fkDA f c j = true := by
  unfold fkDA
  rw [Nat.ble_eq.mpr h1, Nat.ble_eq.mpr h2, Nat.ble_eq.mpr h3]
  simp
theorem fkDA_1 {c : Nat} {j : Nat} (h1 : 75 ≤ c) (h2 : c ≤ 80) (h3 : c = 75 → j = 0) : fkDA f c j = false := by
  have e1 : fkPP c j = false := by
    refine fkPP_no ?_
    unfold fkDR
    by_cases q : c = 75
    · subst q; rw [h3 rfl]; rfl
    · rw [Nat.ble_eq.mpr (show 76 ≤ c by omega), Nat.ble_eq.mpr (show c ≤ 83 by omega)]; rfl
  have e3 : Nat.ble 81 c = false := Bool.eq_false_iff.mpr fun z => by have := Nat.ble_eq.mp z; omega
  unfold fkDA
  rw [e1, e3]
  rfl
/-- one ARGUMENT -/
theorem x_darg (hf20 : f < 20) {Q : Option Value → fkS → Prop} {k : Nat} {L : List (Nat × Nat × Nat)} {v3 : Int32} (hk : k < 4) (h : PC t n σ s C σ) (h0 : s.2.1 = none) (hv : ¬ v3 = 0) (hL : L.length = k) (ha : aR t f L σ)
    (hS : ¬ ((pTyp t n (eK t n 58 (eK t n 1 s))).1.2.1 = none ∧ kA t n (pTyp t n (eK t n 58 (eK t n 1 s))).1.1 = 44 ∧ k + 1 < 4) → ∀ σ', PC t n σ' (pTyp t n (eK t n 58 (eK t n 1 s))).1 C σ' → σ'.2.2 = σ.2.2 → Fr (fkDA f) σ σ' → ((pTyp t n (eK t n 58 (eK t n 1 s))).1.2.1 = none → aR t f (L ++ [(aA t n s.1, zA t n s.1, (pTyp t n (eK t n 58 (eK t n 1 s))).2)]) σ') → Wq 184 (d + 2) 49 [some (.ref 88), some (.int (nI f)), some (.int (nI (k + 1))), some (.int (0 : Int32)), none] [] σ' Q)
    (hG : (pTyp t n (eK t n 58 (eK t n 1 s))).1.2.1 = none → kA t n (pTyp t n (eK t n 58 (eK t n 1 s))).1.1 = 44 → k + 1 < 4 → ∀ σ', PC t n σ' (nxt (pTyp t n (eK t n 58 (eK t n 1 s))).1) C σ' → σ'.2.2 = σ.2.2 → Fr (fkDA f) σ σ' → aR t f (L ++ [(aA t n s.1, zA t n s.1, (pTyp t n (eK t n 58 (eK t n 1 s))).2)]) σ' → Wq 184 (d + 2) 49 [some (.ref 88), some (.int (nI f)), some (.int (nI (k + 1))), some (.int (1 : Int32)), none] [] σ' Q) :
    Wq 184 (d + 2) 49 [some (.ref 88), some (.int (nI f)), some (.int (nI k)), some (.int v3), none] [] σ Q := by
  have e4 : (4 : Int32) * nI f + nI k = nI (4 * f + k) := by
    rw [show (4 : Int32) = nI 4 from rfl, nI_mul, nI_add]
  have ck : (nI (4 * f + k)).toNatClampNeg = 4 * f + k := nI_clamp (by omega)
  have vi : vp_in (nI (4 * f + k)) 80 := vp_in_nI (by omega) (by decide)
  have ek : nI k + 1 = nI (k + 1) := (nI_succ k).symm
  refine S_Parser_definition_49 (d := d + 1) h.r0 ⟨fun y => absurd y hv, fun _ => ⟨fun y => absurd y (nI_ge (a := k) (b := 4) hk (by decide)), fun _ => ?_⟩⟩
  rw [e4, ck, h.at, ek]
  refine ⟨by decide, vi, by decide, vi, ?_⟩
  have hval := h.nm
  generalize σ.2.1 88 11 = v at hval
  have f1 : Fr fkDR σ (sL (sI σ 82 (4 * f + k) (nI (aA t n s.1))) 81 (4 * f + k) v) := (Fr.rf.sI (fkDR_1 (by decide) (by decide))).sL (fkDR_1 (by decide) (by decide))
  have F1 : Fr (fkDA f) σ (sL (sI σ 82 (4 * f + k) (nI (aA t n s.1))) 81 (4 * f + k) v) := (Fr.rf.sI (fkDA_2 (by decide) (by decide) (by omega))).sL (fkDA_2 (by decide) (by decide) (by omega))
  have g1 := h.dr (σ' := sL (sI σ 82 (4 * f + k) (nI (aA t n s.1))) 81 (4 * f + k) v) rfl f1
  have r81 : (sL (sI σ 82 (4 * f + k) (nI (aA t n s.1))) 81 (4 * f + k) v).2.1 81 (4 * f + k) = v := sL_ss
  have r82 : (sL (sI σ 82 (4 * f + k) (nI (aA t n s.1))) 81 (4 * f + k) v).1 82 (4 * f + k) = nI (aA t n s.1) := (show (sI σ 82 (4 * f + k) (nI (aA t n s.1))).1 82 (4 * f + k) = nI (aA t n s.1) from sI_ss)
  have a1 : aR t f L (sL (sI σ 82 (4 * f + k) (nI (aA t n s.1))) 81 (4 * f + k) v) := by
    intro i a hi
    obtain ⟨b1, b2, b3⟩ := ha i a hi
    have := (List.getElem?_eq_some_iff.mp hi).1
    exact ⟨(sL_so (by omega)).trans b1, (show (sI σ 82 (4 * f + k) (nI (aA t n s.1))).1 82 (4 * f + i) = nI a.1 from (sI_so (by omega)).trans b2), (show (sI σ 82 (4 * f + k) (nI (aA t n s.1))).1 83 (4 * f + i) = nI a.2.2 from (congrFun (sI_o (by decide)) _).trans b3)⟩
  have e1 : (sL (sI σ 82 (4 * f + k) (nI (aA t n s.1))) 81 (4 * f + k) v).2.2 = σ.2.2 := rfl
  generalize sL (sI σ 82 (4 * f + k) (nI (aA t n s.1))) 81 (4 * f + k) v = σ1 at f1 F1 g1 r81 r82 a1 e1 ⊢
  refine yV e1 (x_exp g1) fun σ2 g2 w2 => ?_
  rw [w2]
  refine yV ((g1.re g2).trans e1) (x_exp g2) fun σ3 g3 w3 => ⟨by decide, ?_⟩
  rw [w3]
  refine yI ((g1.re g3).trans e1) (x_type g3) fun x4 σ4 ⟨hx, g4⟩ w4 => ⟨vi, ?_⟩
  rw [w4, hx]
  generalize ep : pTyp t n (eK t n 58 (eK t n 1 s)) = p at g4 hS hG ⊢
  have e4' : σ4.2.2 = σ.2.2 := (g1.re g4).trans e1
  have pk : ∀ (S : Nat → Bool), True := fun _ => trivial
  have F4 : Fr fkPP σ1 σ4 := g4.2.2.2.2.2.1
  have no : ∀ c j, 76 ≤ c → c ≤ 83 → fkPP c j = false := fun c j b1 b2 => fkPP_no (fkDR_1 b1 b2)
  have f5 : Fr fkDR σ4 (sI σ4 83 (4 * f + k) (nI p.2)) := Fr.rf.sI (fkDR_1 (by decide) (by decide))
  have F5 : Fr (fkDA f) σ (sI σ4 83 (4 * f + k) (nI p.2)) := (F1.tr F4.pa).sI (fkDA_2 (by decide) (by decide) (by omega))
  have g5 := g4.dr (σ' := sI σ4 83 (4 * f + k) (nI p.2)) rfl f5
  have e5 : (sI σ4 83 (4 * f + k) (nI p.2)).2.2 = σ.2.2 := e4'
  have a5 : p.1.2.1 = none → aR t f (L ++ [(aA t n s.1, zA t n s.1, p.2)]) (sI σ4 83 (4 * f + k) (nI p.2)) := by
    intro z i a hi
    rcases Nat.lt_or_ge i L.length with c | c
    · rw [List.getElem?_append_left c] at hi
      obtain ⟨b1, b2, b3⟩ := a1 i a hi
      exact ⟨(F4 81 _ (no 81 _ (by decide) (by decide))).2.1.trans b1, (congrFun (sI_o (by decide)) _).trans ((F4 82 _ (no 82 _ (by decide) (by decide))).1.trans b2), (sI_so (by omega)).trans ((F4 83 _ (no 83 _ (by decide) (by decide))).1.trans b3)⟩
    · have hi2 := (List.getElem?_eq_some_iff.mp hi).1
      rw [List.length_append] at hi2
      have hi3 : i = k := by
        have : [(aA t n s.1, zA t n s.1, p.2)].length = 1 := rfl
        omega
      rw [List.getElem?_append_right c, hi3, hL, Nat.sub_self] at hi
      have ea : (aA t n s.1, zA t n s.1, p.2) = a := Option.some.inj hi
      subst ea
      rw [hi3]
      have z2 := z
      rw [← ep] at z2
      have kn := (eK_inv (eK_inv (pTyp_inv z2).1).1).2.1
      exact ⟨(F4 81 _ (no 81 _ (by decide) (by decide))).2.1.trans (r81.trans (hval kn)), (congrFun (sI_o (by decide)) _).trans ((F4 82 _ (no 82 _ (by decide) (by decide))).1.trans r82), sI_ss⟩
  generalize sI σ4 83 (4 * f + k) (nI p.2) = σ5 at F5 g5 e5 a5 ⊢
  refine yI e5 (x_fine g5) fun x6 σ6 ⟨e6, hx6⟩ w6 => ?_
  subst e6
  rw [w6, g5.kind]
  have b5 := g5.base
  refine ⟨fun y => ⟨fun _ => hS (fun c => ?_) σ6 b5 e5 F5 a5, fun y => absurd rfl y⟩, fun y => ⟨fun y2 => ⟨fun _ => hS (fun c => y2 c.2.1) σ6 b5 e5 F5 a5, fun y => absurd rfl y⟩, fun y2 => ⟨fun y3 => ⟨fun _ => hS (fun c => ?_) σ6 b5 e5 F5 a5, fun y => absurd rfl y⟩, fun y3 => ⟨fun y => absurd y (by decide), fun _ => ?_⟩⟩⟩⟩
  · rw [hx6, if_pos c.1] at y; exact absurd y (by decide)
  · exact absurd y3 (nI_ge (a := k + 1) (b := 4) c.2.2 (by decide))
  · have z : p.1.2.1 = none := Classical.byContradiction fun c => y (by rw [hx6, if_neg c])
    have k4 : k + 1 < 4 := by
      rcases Nat.lt_or_ge (k + 1) 4 with c | c
      · exact c
      · exact absurd (nI_le (a := 4) (b := k + 1) c (by omega)) y3
    refine yV e5 (x_step b5 z) fun σ7 g7 w7 => ?_
    rw [w7]
    have F7 : Fr fkPP σ6 σ7 := g7.2.2.2.2.2.1
    refine hG z y2 k4 σ7 g7.base ((b5.re g7).trans e5) (F5.tr F7.pa) ?_
    intro i a hi
    obtain ⟨c1, c2, c3⟩ := a5 z i a hi
    exact ⟨(F7 81 _ (no 81 _ (by decide) (by decide))).2.1.trans c1, (F7 82 _ (no 82 _ (by decide) (by decide))).1.trans c2, (F7 83 _ (no 83 _ (by decide) (by decide))).1.trans c3⟩
/-- ARGUMENTS -/
theorem w_dargs (hf20 : f < 20) {Q : Option Value → fkS → Prop} : ∀ (fu k : Nat) (s : PS) (σ : fkS) (L : List (Nat × Nat × Nat)) (v3 : Int32), fu + 1 + k = 4 → PC t n σ s C σ → s.2.1 = none → ¬ v3 = 0 → L.length = k → aR t f L σ →
    (∀ σ', PC t n σ' (pAg t n (fu + 1) s).1 C σ' → σ'.2.2 = σ.2.2 → Fr (fkDA f) σ σ' → ((pAg t n (fu + 1) s).1.2.1 = none → aR t f (L ++ (pAg t n (fu + 1) s).2) σ') → Wq 184 (d + 2) 159 [some (.ref 88), some (.int (nI f)), some (.int (nI (k + (pAg t n (fu + 1) s).2.length))), none, none] [] σ' Q) →
    Wq 184 (d + 2) 49 [some (.ref 88), some (.int (nI f)), some (.int (nI k)), some (.int v3), none] [] σ Q := by
  intro fu
  induction fu with
  | zero =>
    intro k s σ L v3 hk h h0 hv hL ha hQ
    rw [pAg, if_pos h0, if_neg (fun c => c.2.2 rfl)] at hQ
    refine x_darg hf20 (by omega) h h0 hv hL ha (fun _ σ' g1 g2 g3 g4 => ?_) (fun _ _ y => by omega)
    exact S_Parser_definition_49 (d := d + 1) g1.r0 ⟨fun _ => hQ σ' g1 g2 g3 g4, fun y => absurd rfl y⟩
  | succ fu ih =>
    intro k s σ L v3 hk h h0 hv hL ha hQ
    rw [pAg, if_pos h0] at hQ
    refine x_darg hf20 (by omega) h h0 hv hL ha (fun c σ' g1 g2 g3 g4 => ?_) (fun z k44 k4 σ' g1 g2 g3 g4 => ?_)
    · rw [if_neg (fun c2 => c ⟨c2.1, c2.2.1, by omega⟩)] at hQ
      exact S_Parser_definition_49 (d := d + 1) g1.r0 ⟨fun _ => hQ σ' g1 g2 g3 g4, fun y => absurd rfl y⟩
    · rw [if_pos ⟨z, k44, by omega⟩] at hQ
      refine ih (k + 1) _ σ' _ 1 (by omega) g1 rfl (by decide) (by rw [List.length_append, hL]; rfl) g4 fun σ2 b1 b2 b3 b4 => ?_
      have q := hQ σ2 b1 (b2.trans g2) (g3.tr b3) (fun z => by
        have := b4 z
        rw [List.append_assoc] at this
        exact this)
      have el : k + ((aA t n s.1, zA t n s.1, (pTyp t n (eK t n 58 (eK t n 1 s))).2) :: (pAg t n (fu + 1) (nxt (pTyp t n (eK t n 58 (eK t n 1 s))).1)).2).length = k + 1 + (pAg t n (fu + 1) (nxt (pTyp t n (eK t n 58 (eK t n 1 s))).1)).2.length := by
        rw [List.length_cons]
        omega
      have q' := q
      simp only at q'
      rw [el] at q'
      exact q'
theorem row_c {c f2 : Nat} (hc : 76 ≤ c ∧ c ≤ 80) {σ1 σ2 : fkS} (h : Fr (fkDA f) σ1 σ2) : σ2.1 c f2 = σ1.1 c f2 ∧ σ2.2.1 c f2 = σ1.2.1 c f2 := by
  have e := h c f2 (fkDA_1 (by omega) hc.2 (by omega))
  exact ⟨e.1, e.2.1⟩
/-- a DEFINITION -/
theorem x_def (hn : n ≤ 4000) {D : List FD} (hf : D.length = f) (hf20 : f < 20) (hd : 244 ≤ d + 1) (h : PC t n σ s C σ) (hD : s.2.1 = none → C = cDf t D 0 ∧ dR t D σ ∧ C.length ≤ 6 * s.2.2) : Dv (d + 2) 184 [.ref 88, .int (nI f)] σ (fun σ' => ∃ C', PC t n σ' (pDf t n s).1 C' σ' ∧ Fr (fkDX f) σ σ' ∧ σ'.1 75 0 = nI (f + 1) ∧ ((pDf t n s).1.2.1 = none → C' = cDf t (D ++ [(pDf t n s).2]) 0 ∧ dR t (D ++ [(pDf t n s).2]) σ' ∧ C'.length ≤ 6 * (pDf t n s).1.2.2)) := by
  have vi : vp_in (nI f) 20 := vp_in_nI hf20 (by decide)
  have ck : (nI f).toNatClampNeg = f := nI_clamp (by omega)
  have inv := pDf_inv (t := t) (s := s) hn
  unfold pDf at inv ⊢
  simp only at inv ⊢
  refine S_Parser_definition (d := d + 1) h.r0 (yV rfl (x_exp h) fun σ1 g1 w1 => ⟨by decide, vi, by decide, vi, ?_⟩)
  rw [w1, ck, g1.at]
  have hval := g1.nm
  generalize σ1.2.1 88 11 = v at hval
  have i1 : (eK t n 4 s).2.1 = none → s.2.1 = none := fun z => (eK_inv z).1
  have ea1 : (eK t n 4 s).2.2 = s.2.2 := rfl
  generalize eK t n 4 s = s1 at g1 hval inv i1 ea1 ⊢
  have F1 : Fr (fkDX f) σ σ1 := g1.pp
  have d2 : Fr fkDR σ1 (sL (sI σ1 77 f (nI (aA t n s1.1))) 76 f v) := (Fr.rf.sI (fkDR_1 (by decide) (by decide))).sL (fkDR_1 (by decide) (by decide))
  have F2 : Fr (fkDX f) σ (sL (sI σ1 77 f (nI (aA t n s1.1))) 76 f v) := (F1.sI (fkDX_1 (by decide) (by decide))).sL (fkDX_1 (by decide) (by decide))
  have g2 := g1.dr (σ' := sL (sI σ1 77 f (nI (aA t n s1.1))) 76 f v) rfl d2
  have r76 : (sL (sI σ1 77 f (nI (aA t n s1.1))) 76 f v).2.1 76 f = v := sL_ss
  have r77 : (sL (sI σ1 77 f (nI (aA t n s1.1))) 76 f v).1 77 f = nI (aA t n s1.1) := (show (sI σ1 77 f (nI (aA t n s1.1))).1 77 f = nI (aA t n s1.1) from sI_ss)
  have e2 : (sL (sI σ1 77 f (nI (aA t n s1.1))) 76 f v).2.2 = σ.2.2 := (show σ1.2.2 = σ.2.2 from h.re g1)
  generalize sL (sI σ1 77 f (nI (aA t n s1.1))) 76 f v = σ2 at g2 F2 r76 r77 e2 ⊢
  refine yV e2 (x_exp g2) fun σ3 g3 w3 => ?_
  rw [w3]
  refine yV ((g2.re g3).trans e2) (x_exp g3) fun σ4 g4 w4 => ?_
  rw [w4]
  refine yI ((g2.re g4).trans e2) (x_fine g4) fun x5 σ5 ⟨e5, hx5⟩ w5 => ?_
  subst e5
  rw [w5]
  have i2 : (eK t n 40 (eK t n 1 s1)).2.1 = none → s1.2.1 = none ∧ kA t n s1.1 = 1 := fun z => ⟨(eK_inv (eK_inv z).1).1, (eK_inv (eK_inv z).1).2.1⟩
  have ea2 : (eK t n 40 (eK t n 1 s1)).2.2 = s.2.2 := ea1
  have e4 : σ5.2.2 = σ.2.2 := (g2.re g4).trans e2
  have F4 : Fr (fkDA f) σ2 σ5 := Fr.pa g4.2.2.2.2.2.1
  generalize eK t n 40 (eK t n 1 s1) = s2 at g4 hx5 i2 ea2 inv ⊢
  have b4 := g4.base
  -- behind the ARGUMENTS
  have rest : ∀ σ6, PC t n σ6 (pAg t n 4 s2).1 C σ6 → σ6.2.2 = σ5.2.2 → Fr (fkDA f) σ5 σ6 → ((pAg t n 4 s2).1.2.1 = none → aR t f (pAg t n 4 s2).2 σ6) → Wq 184 (d + 2) 159 [some (.ref 88), some (.int (nI f)), some (.int (nI (0 + (pAg t n 4 s2).2.length))), none, none] [] σ6 (Qv fun σ' => σ'.2.2 = σ.2.2 ∧ ∃ C', PC t n σ' (eK t n 59 (pE t n 30 (eK t n 61 (pTyp t n (eK t n 58 (eK t n 41 (pAg t n 4 s2).1))).1)).1) C' σ' ∧ Fr (fkDX f) σ σ' ∧ σ'.1 75 0 = nI (f + 1) ∧ ((eK t n 59 (pE t n 30 (eK t n 61 (pTyp t n (eK t n 58 (eK t n 41 (pAg t n 4 s2).1))).1)).1).2.1 = none → C' = cDf t (D ++ [((aA t n s1.1, zA t n s1.1), (pAg t n 4 s2).2, (pTyp t n (eK t n 58 (eK t n 41 (pAg t n 4 s2).1))).2, aA t n (eK t n 61 (pTyp t n (eK t n 58 (eK t n 41 (pAg t n 4 s2).1))).1).1, (pE t n 30 (eK t n 61 (pTyp t n (eK t n 58 (eK t n 41 (pAg t n 4 s2).1))).1)).2)]) 0 ∧ dR t (D ++ [((aA t n s1.1, zA t n s1.1), (pAg t n 4 s2).2, (pTyp t n (eK t n 58 (eK t n 41 (pAg t n 4 s2).1))).2, aA t n (eK t n 61 (pTyp t n (eK t n 58 (eK t n 41 (pAg t n 4 s2).1))).1).1, (pE t n 30 (eK t n 61 (pTyp t n (eK t n 58 (eK t n 41 (pAg t n 4 s2).1))).1)).2)]) σ' ∧ C'.length ≤ 6 * (eK t n 59 (pE t n 30 (eK t n 61 (pTyp t n (eK t n 58 (eK t n 41 (pAg t n 4 s2).1))).1)).1).2.2)) := by
    intro σ6 g6 e6 F6 ha
    have pinv := pAg_inv (t := t) (n := n) 4 s2
    generalize pAg t n 4 s2 = r2 at g6 ha pinv inv ⊢
    have F26 := F4.tr F6
    rw [Nat.zero_add]
    refine S_Parser_definition_159 (d := d + 1) g6.r0 ⟨by decide, vi, ?_⟩
    rw [ck]
    have d7 : Fr fkDR σ6 (sI σ6 78 f (nI r2.2.length)) := Fr.rf.sI (fkDR_1 (by decide) (by decide))
    have F7 : Fr (fkDX f) σ (sI σ6 78 f (nI r2.2.length)) := (F2.tr F26.da).sI (fkDX_1 (by decide) (by decide))
    have g7 := g6.dr (σ' := sI σ6 78 f (nI r2.2.length)) rfl d7
    have q76 : (sI σ6 78 f (nI r2.2.length)).2.1 76 f = v := (row_c (by decide) F26).2.trans r76
    have q77 : (sI σ6 78 f (nI r2.2.length)).1 77 f = nI (aA t n s1.1) := (congrFun (sI_o (by decide)) f).trans ((row_c (by decide) F26).1.trans r77)
    have q78 : (sI σ6 78 f (nI r2.2.length)).1 78 f = nI r2.2.length := sI_ss
    have qa : r2.1.2.1 = none → aR t f r2.2 (sI σ6 78 f (nI r2.2.length)) := fun z k a hk => by
      obtain ⟨b1, b2, b3⟩ := ha z k a hk
      exact ⟨b1, (congrFun (sI_o (by decide)) _).trans b2, (congrFun (sI_o (by decide)) _).trans b3⟩
    have e7 : (sI σ6 78 f (nI r2.2.length)).2.2 = σ6.2.2 := rfl
    generalize sI σ6 78 f (nI r2.2.length) = σ7 at F7 g7 q76 q77 q78 qa e7 ⊢
    refine yV e7 (x_exp g7) fun σ8 g8 w8 => ?_
    rw [w8]
    refine yV ((g7.re g8).trans e7) (x_exp g8) fun σ9 g9 w9 => ⟨by decide, ?_⟩
    rw [w9]
    refine yI ((g7.re g9).trans e7) (x_type g9) fun x4 σ10 ⟨hx4, g10⟩ w10 => ⟨vi, ?_⟩
    rw [w10, hx4]
    have i3 : (pTyp t n (eK t n 58 (eK t n 41 r2.1))).1.2.1 = none → r2.1.2.1 = none := fun z => (eK_inv (eK_inv (pTyp_inv z).1).1).1
    have ea3 : (pTyp t n (eK t n 58 (eK t n 41 r2.1))).1.2.2 = r2.1.2.2 := rfl
    generalize pTyp t n (eK t n 58 (eK t n 41 r2.1)) = p3 at g10 i3 ea3 inv ⊢
    have d11 : Fr fkDR σ10 (sI σ10 79 f (nI p3.2)) := Fr.rf.sI (fkDR_1 (by decide) (by decide))
    have P10 : Fr fkPP σ7 σ10 := g10.2.2.2.2.2.1
    have F11 : Fr (fkDX f) σ (sI σ10 79 f (nI p3.2)) := (F7.tr P10.pd).sI (fkDX_1 (by decide) (by decide))
    have g11 := g10.dr (σ' := sI σ10 79 f (nI p3.2)) rfl d11
    have e11 : (sI σ10 79 f (nI p3.2)).2.2 = σ6.2.2 := (g7.re g10).trans e7
    have no : ∀ c j, 76 ≤ c → c ≤ 83 → fkPP c j = false := fun c j b1 b2 => fkPP_no (fkDR_1 b1 b2)
    have a11 : ∀ c j, 76 ≤ c → c ≤ 83 → c ≠ 79 → (sI σ10 79 f (nI p3.2)).1 c j = σ7.1 c j ∧ (sI σ10 79 f (nI p3.2)).2.1 c j = σ7.2.1 c j := fun c j b1 b2 b3 => ⟨(congrFun (sI_o b3) j).trans (P10 c j (no c j b1 b2)).1, (P10 c j (no c j b1 b2)).2.1⟩
    have q79 : (sI σ10 79 f (nI p3.2)).1 79 f = nI p3.2 := sI_ss
    generalize sI σ10 79 f (nI p3.2) = σ11 at F11 g11 e11 a11 q79 ⊢
    refine yV e11 (x_exp g11) fun σ12 g12 w12 => ⟨by decide, by decide, vi, by decide, ?_⟩
    rw [w12, g12.2.1.1, (nI_succ f).symm, g12.at]
    have i4 : (eK t n 61 p3.1).2.1 = none → p3.1.2.1 = none := fun z => (eK_inv z).1
    have ea4 : (eK t n 61 p3.1).2.2 = p3.1.2.2 := rfl
    generalize eK t n 61 p3.1 = s4 at g12 i4 ea4 inv ⊢
    have d13 : Fr fkDR σ12 (sI (sI σ12 80 f (nI C.length)) 75 0 (nI (f + 1))) := (Fr.rf.sI (fkDR_1 (by decide) (by decide))).sI rfl
    have P12 : Fr fkPP σ11 σ12 := g12.2.2.2.2.2.1
    have F13 : Fr (fkDX f) σ (sI (sI σ12 80 f (nI C.length)) 75 0 (nI (f + 1))) := ((F11.tr P12.pd).sI (fkDX_1 (by decide) (by decide))).sI fkDX_3
    have g13 := g12.dr (σ' := sI (sI σ12 80 f (nI C.length)) 75 0 (nI (f + 1))) rfl d13
    have e13 : (sI (sI σ12 80 f (nI C.length)) 75 0 (nI (f + 1))).2.2 = σ6.2.2 := (g11.re g12).trans e11
    have a13 : ∀ c j, 76 ≤ c → c ≤ 83 → c ≠ 80 → (sI (sI σ12 80 f (nI C.length)) 75 0 (nI (f + 1))).1 c j = σ11.1 c j ∧ (sI (sI σ12 80 f (nI C.length)) 75 0 (nI (f + 1))).2.1 c j = σ11.2.1 c j := fun c j b1 b2 b3 => ⟨(congrFun (sI_o (by omega)) j).trans ((congrFun (sI_o b3) j).trans (P12 c j (no c j b1 b2)).1), (P12 c j (no c j b1 b2)).2.1⟩
    have q80 : (sI (sI σ12 80 f (nI C.length)) 75 0 (nI (f + 1))).1 80 f = nI C.length := (congrFun (sI_o (by decide)) f).trans sI_ss
    have q75 : (sI (sI σ12 80 f (nI C.length)) 75 0 (nI (f + 1))).1 75 0 = nI (f + 1) := sI_ss
    generalize sI (sI σ12 80 f (nI C.length)) 75 0 (nI (f + 1)) = σ13 at F13 g13 e13 a13 q80 q75 ⊢
    refine yV e13 (x_E hn 30 (Nat.le_refl _) (d + 1) hd s4 C σ13 g13) fun σ14 ⟨C1, g14, go⟩ w14 => ⟨by decide, ?_⟩
    rw [w14]
    refine yI ((g13.re g14).trans e13) (x_add g14) fun _ σ15 ⟨_, g15⟩ w15 => ?_
    rw [w15]
    refine yV ((g13.re g15).trans e13) (x_exp g15) fun σ16 g16 w16 => ?_
    have e16 : σ16.2.2 = σ6.2.2 := (g13.re g16).trans e13
    show (sW σ16 σ6).2.2 = σ.2.2 ∧ _
    rw [w16]
    have P16 : Fr fkPP σ13 σ16 := g16.2.2.2.2.2.1
    refine ⟨e16.trans (e6.trans e4), _, g16.base, F13.tr P16.pd, (P16 75 0 (fkPP_no rfl)).1.trans q75, fun z => ?_⟩
    obtain ⟨-, o2, o3, o4, o5⟩ := inv z
    have z5 := (eK_inv z).1
    have G := Gd_E (t := t) hn 30 s4 z5
    obtain ⟨G1, G2, G3, G4, G5, -⟩ := G
    have z3 := i4 G1
    have z2 := i3 z3
    obtain ⟨n1, n2, n3, n4, n5⟩ := pinv z2
    have z1 := i2 n1
    obtain ⟨c1, c2, c3⟩ := hD (i1 z1.1)
    have lz := (ln_sz _ _ _ _ _ G5).1 rfl
    generalize er : pE t n 30 s4 = r5 at *
    have aa : s4.2.2 = s.2.2 := by rw [ea4, ea3, n2, ea2]
    rw [aa] at G4
    have le1 := go.len z5 (by omega)
    have eq1 := go.2 z5 (by omega)
    have eC : cdA C1 (17, 0, nI (aA t n s4.1), 0) = C1 ++ [(17, 0, nI (aA t n s4.1), 0)] := cdA_go (by omega)
    have lC : C.length = lnD D := by rw [c1, cDf_len]
    refine ⟨?_, ?_, ?_⟩
    · rw [cDf_app, eC, eq1, Nat.zero_add]
      show C ++ cr t r5.2 C.length ++ [(17, 0, nI (aA t n s4.1), 0)] = cDf t D 0 ++ (cr t r5.2 (lnD D) ++ [(17, 0, nI (aA t n s4.1), 0)])
      rw [lC, ← c1, List.append_assoc]
    · intro i q hq
      rcases Nat.lt_or_ge i D.length with c | c
      · rw [List.getElem?_append_left c] at hq
        obtain ⟨h1, h2, h3, h4, h5, h6, h7⟩ := (c2.fr (F13.tr P16.pd) (by omega)) i q hq
        exact ⟨h1, h2, h3, h4, by rw [stD_lt _ _ _ c]; exact h5, h6, h7⟩
      · have hi2 := (List.getElem?_eq_some_iff.mp hq).1
        rw [List.length_append] at hi2
        have hi3 : i = f := by
          have e : ∀ x : FD, [x].length = 1 := fun _ => rfl
          rw [e] at hi2
          omega
        rw [List.getElem?_append_right c, hi3, hf, Nat.sub_self] at hq
        have ea := Option.some.inj hq
        subst ea
        rw [hi3]
        have tr : ∀ c j, 76 ≤ c → c ≤ 83 → c ≠ 79 → c ≠ 80 → σ16.1 c j = σ7.1 c j ∧ σ16.2.1 c j = σ7.2.1 c j := fun c j b1 b2 b3 b4 => ⟨(P16 c j (no c j b1 b2)).1.trans ((a13 c j b1 b2 b4).1.trans (a11 c j b1 b2 b3).1), (P16 c j (no c j b1 b2)).2.1.trans ((a13 c j b1 b2 b4).2.trans (a11 c j b1 b2 b3).2)⟩
        refine ⟨(tr 76 f (by decide) (by decide) (by decide) (by decide)).2.trans (q76.trans (hval z1.2)), (tr 77 f (by decide) (by decide) (by decide) (by decide)).1.trans q77, (tr 78 f (by decide) (by decide) (by decide) (by decide)).1.trans q78, (P16 79 f (no 79 f (by decide) (by decide))).1.trans ((a13 79 f (by decide) (by decide) (by decide)).1.trans q79), ?_, n4, fun k a hk => ?_⟩
        · rw [← hf, stD_at, hf, ← lC]
          exact (P16 80 f (no 80 f (by decide) (by decide))).1.trans q80
        · obtain ⟨b1, b2, b3⟩ := qa z2 k a hk
          exact ⟨(tr 81 _ (by decide) (by decide) (by decide) (by decide)).2.trans b1, (tr 82 _ (by decide) (by decide) (by decide) (by decide)).1.trans b2, (tr 83 _ (by decide) (by decide) (by decide) (by decide)).1.trans b3⟩
    · rw [eC, List.length_append]
      show C1.length + 1 ≤ 6 * r5.1.2.2
      omega
  by_cases z : s2.2.1 = none
  · refine w_dargs hf20 3 0 s2 σ5 [] x5 rfl b4 z (fun y => ?_) rfl (fun k a hk => by simp at hk) fun σ6 g6 e6 F6 ha => rest σ6 g6 e6 F6 ha
    rw [hx5, if_pos z] at y
    exact absurd y (by decide)
  · have ep : pAg t n 4 s2 = (s2, []) := by rw [pAg, if_neg z]
    have r := rest σ5 (by rw [ep]; exact b4) rfl Fr.rf (by rw [ep]; exact fun y => absurd y z)
    rw [ep] at r ⊢
    refine S_Parser_definition_49 (d := d + 1) b4.r0 ⟨fun _ => r, fun y => absurd (by rw [hx5, if_neg z]) y⟩
end DX
