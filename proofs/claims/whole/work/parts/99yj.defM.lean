/-! THE REFERENCE reads DEFINITIONS -/
def aM (f : Nat) (L : List (Nat × Nat × Nat)) (σ : fkS) : Prop := ∀ k a, L[k]? = some a → σ.1 161 (4 * f + k) = nI a.1 ∧ σ.1 162 (4 * f + k) = nI a.2.1 ∧ σ.1 163 (4 * f + k) = nI a.2.2
/-- the rows of DEFINITIONS, their trees in the nodes below m -/
def dM (D : List FD) (m : Nat) (σ : fkS) : Prop := ∀ i q, D[i]? = some q → σ.1 155 i = nI q.1.1 ∧ σ.1 156 i = nI q.1.2 ∧ σ.1 157 i = nI q.2.1.length ∧ σ.1 158 i = nI q.2.2.1 ∧ σ.1 160 i = nI q.2.2.2.1 ∧ q.2.1.length ≤ 4 ∧ aM i q.2.1 σ ∧ At q.2.2.2.2 0 (σ.1 159 i) 0 m σ
/-- what stands in the rows of DEFINITIONS -/
def fkDM (c j : Nat) : Bool := (Nat.ble 155 c && Nat.ble c 163) || (Nat.beq c 103 && Nat.beq j 97)
/-- what reading DEFINITION f changes -/
def fkMX (f c j : Nat) : Bool := fkMP c j || (Nat.ble 155 c && Nat.ble c 160 && Nat.beq j f) || (Nat.ble 161 c && Nat.ble c 163 && Nat.ble (4 * f) j) || (Nat.beq c 103 && Nat.beq j 97)
/-- what reading its ARGUMENTS changes -/
def fkMA (f c j : Nat) : Bool := fkMP c j || (Nat.beq c 157 && Nat.beq j f) || (Nat.ble 161 c && Nat.ble c 163 && Nat.ble (4 * f) j)
section DM
variable {t : Nat → UInt8} {n d f m o : Nat} {σ0 σ : fkS} {s : PS}
theorem eK_id {k : Int32} (h : ¬ s.2.1 = none) : eK t n k s = s := by
  obtain ⟨i, w, a⟩ := s
  cases w with
  | none => exact absurd rfl h
  | some b =>
    unfold eK
    simp only [exK_some]
theorem pTyp_id (h : ¬ s.2.1 = none) : (pTyp t n s).1 = s := by
  obtain ⟨i, w, a⟩ := s
  cases w with
  | none => exact absurd rfl h
  | some b =>
    unfold pTyp
    simp only [exK_some]
theorem fkMP_no {c j : Nat} (h : fkDM c j = true) : fkMP c j = false := by
  unfold fkDM at h
  cases e : fkMP c j
  · rfl
  · unfold fkMP at e
    simp only [Bool.or_eq_true, Bool.and_eq_true, Nat.beq_eq, Nat.ble_eq] at h e
    omega
theorem fkDM_1 {c j : Nat} (h1 : 155 ≤ c) (h2 : c ≤ 163) : fkDM c j = true := by
  unfold fkDM
  rw [Nat.ble_eq.mpr h1, Nat.ble_eq.mpr h2]
  rfl
theorem fkMX_1 {c : Nat} (h1 : 155 ≤ c) (h2 : c ≤ 160) : fkMX f c f = true := by
  unfold fkMX
  rw [Nat.ble_eq.mpr h1, Nat.ble_eq.mpr h2, Nat.beq_refl]
  simp
theorem fkMX_3 : fkMX f 103 97 = true := by
  unfold fkMX
  simp
theorem fkMA_2 {c j : Nat} (h1 : 161 ≤ c) (h2 : c ≤ 163) (h3 : 4 * f ≤ j) : fkMA f c j = true := by
  unfold fkMA
  rw [Nat.ble_eq.mpr h1, Nat.ble_eq.mpr h2, Nat.ble_eq.mpr h3]
  simp
theorem fkMA_3 : fkMA f 157 f = true := by
  unfold fkMA
  rw [Nat.beq_refl, Nat.beq_refl]
  simp
theorem Fr.ma {σ' : fkS} (h : Fr fkMP σ σ') : Fr (fkMA f) σ σ' := h.mono fun c j q => by unfold fkMA; rw [q]; rfl
theorem Fr.mx {σ' : fkS} (h : Fr fkMP σ σ') : Fr (fkMX f) σ σ' := h.mono fun c j q => by unfold fkMX; rw [q]; rfl
theorem Fr.max {σ' : fkS} (h : Fr (fkMA f) σ σ') : Fr (fkMX f) σ σ' := h.mono fun c j q => by
  unfold fkMA at q
  unfold fkMX
  simp only [Bool.or_eq_true, Bool.and_eq_true, Nat.beq_eq, Nat.ble_eq] at q ⊢
  rcases q with (q | q) | q
  · exact Or.inl (Or.inl (Or.inl q))
  · exact Or.inl (Or.inl (Or.inr ⟨⟨by omega, by omega⟩, q.2⟩))
  · exact Or.inl (Or.inr q)
theorem fkMA_1 {c j : Nat} (h1 : c = 155 ∨ c = 156 ∨ c = 158 ∨ c = 159 ∨ c = 160 ∨ c = 103 ∧ j = 97) : fkMA f c j = false := by
  cases e : fkMA f c j
  · rfl
  · unfold fkMA fkMP at e
    simp only [Bool.or_eq_true, Bool.and_eq_true, Nat.beq_eq, Nat.ble_eq] at e
    omega
theorem PN.base (h : PN t n σ0 s m o σ) : PN t n σ s m o σ := ⟨h.1, h.2.1, h.2.2.1, h.2.2.2.1, h.2.2.2.2.1, h.2.2.2.2.2.1, h.2.2.2.2.2.2.1, Fr.rf⟩
theorem PN.pp (h : PN t n σ0 s m o σ) : Fr fkMP σ0 σ := h.2.2.2.2.2.2.2
theorem PN.dm {σ' : fkS} (h : PN t n σ0 s m o σ) (hf : Fr fkDM σ σ') : PN t n σ' s m o σ' := by
  obtain ⟨h1, h2, h3, h4, h5, h6, h7, h8⟩ := h
  exact ⟨h1.fg hf rfl rfl rfl rfl rfl rfl rfl (fun _ => rfl), (hf 103 112 rfl).1.trans h2, (hf 103 111 rfl).1.trans h3, (hf 103 113 rfl).1.trans h4, h5, h6, h7, Fr.rf⟩
theorem Kp.dm {σ' : fkS} (hf : Fr fkDM σ σ') : Kp m σ σ' := fun c j a1 a2 _ => (hf c j (by
  have e1 : Nat.ble c 163 = false := Bool.eq_false_iff.mpr fun z => by have := Nat.ble_eq.mp z; omega
  have e2 : Nat.beq c 103 = false := beq_ne (by omega)
  unfold fkDM
  rw [e1, e2]
  simp)).1
theorem u_type (h : PN t n σ0 s m o σ) : Ci (d + 5) 337 [.ref 103] σ (fun x σ' => x = nI (pTyp t n s).2 ∧ PN t n σ0 (pTyp t n s).1 m o σ' ∧ Kp m σ σ') := by
  refine vI (m_typeK h.1) fun x σ' ⟨g1, g2, g3⟩ => ⟨g2, h.e g1 g3 rfl fun z => (pTyp_inv z).1, Kp.of g1 fkME_n⟩
theorem aM.fr {f' : Nat} {L : List (Nat × Nat × Nat)} {σ' : fkS} (h : aM f' L σ) (hL : L.length ≤ 4) (hf' : f' < f) (hf : Fr (fkMX f) σ σ') : aM f' L σ' := by
  intro k a ha
  obtain ⟨h1, h2, h3⟩ := h k a ha
  have hk := (List.getElem?_eq_some_iff.mp ha).1
  have e : ∀ c, 161 ≤ c → c ≤ 163 → fkMX f c (4 * f' + k) = false := by
    intro c c1 c2
    cases e : fkMX f c (4 * f' + k)
    · rfl
    · unfold fkMX fkMP at e
      simp only [Bool.or_eq_true, Bool.and_eq_true, Nat.beq_eq, Nat.ble_eq] at e
      omega
  exact ⟨(hf 161 _ (e 161 (by decide) (by decide))).1.trans h1, (hf 162 _ (e 162 (by decide) (by decide))).1.trans h2, (hf 163 _ (e 163 (by decide) (by decide))).1.trans h3⟩
theorem dM.fr {D : List FD} {m2 : Nat} {σ' : fkS} (h : dM D m σ) (hf : Fr (fkMX f) σ σ') (hl : D.length ≤ f) (hk : Kp m σ σ') (hm : m ≤ m2) : dM D m2 σ' := by
  intro i q hq
  obtain ⟨h1, h2, h3, h4, h5, h6, h7, h8⟩ := h i q hq
  have hi := (List.getElem?_eq_some_iff.mp hq).1
  have e : ∀ c, 155 ≤ c → c ≤ 160 → fkMX f c i = false := by
    intro c c1 c2
    cases e : fkMX f c i
    · rfl
    · unfold fkMX fkMP at e
      simp only [Bool.or_eq_true, Bool.and_eq_true, Nat.beq_eq, Nat.ble_eq] at e
      omega
  refine ⟨(hf 155 _ (e 155 (by decide) (by decide))).1.trans h1, (hf 156 _ (e 156 (by decide) (by decide))).1.trans h2, (hf 157 _ (e 157 (by decide) (by decide))).1.trans h3, (hf 158 _ (e 158 (by decide) (by decide))).1.trans h4, (hf 160 _ (e 160 (by decide) (by decide))).1.trans h5, h6, h7.fr h6 (by omega) hf, ?_⟩
  rw [(hf 159 _ (e 159 (by decide) (by decide))).1]
  exact (hk.at (Nat.le_refl _) h8).wide (Nat.le_refl _) hm
/-- one ARGUMENT -/
theorem m_darg (hf20 : f < 20) {Q : Option Value → fkS → Prop} {k : Nat} {L : List (Nat × Nat × Nat)} {v2 : Int32} (hk : k < 4) (h : PN t n σ s m o σ) (h0 : s.2.1 = none) (hv : ¬ v2 = 0) (hL : L.length = k) (h157 : σ.1 157 f = nI k) (ha : aM f L σ)
    (hS : ¬ ((pTyp t n (eK t n 58 (eK t n 1 s))).1.2.1 = none ∧ kA t n (pTyp t n (eK t n 58 (eK t n 1 s))).1.1 = 44 ∧ k + 1 < 4) → ∀ σ', PN t n σ' (pTyp t n (eK t n 58 (eK t n 1 s))).1 m o σ' → Fr (fkMA f) σ σ' → Kp m σ σ' → σ'.1 157 f = nI (k + 1) → ((pTyp t n (eK t n 58 (eK t n 1 s))).1.2.1 = none → aM f (L ++ [(aA t n s.1, zA t n s.1, (pTyp t n (eK t n 58 (eK t n 1 s))).2)]) σ') → Wq 329 (d + 6) 69 [some (.ref 103), some (.int (nI f)), some (.int (0 : Int32)), none] [] σ' Q)
    (hG : (pTyp t n (eK t n 58 (eK t n 1 s))).1.2.1 = none → kA t n (pTyp t n (eK t n 58 (eK t n 1 s))).1.1 = 44 → k + 1 < 4 → ∀ σ', PN t n σ' (nxt (pTyp t n (eK t n 58 (eK t n 1 s))).1) m o σ' → Fr (fkMA f) σ σ' → Kp m σ σ' → σ'.1 157 f = nI (k + 1) → aM f (L ++ [(aA t n s.1, zA t n s.1, (pTyp t n (eK t n 58 (eK t n 1 s))).2)]) σ' → Wq 329 (d + 6) 69 [some (.ref 103), some (.int (nI f)), some (.int (1 : Int32)), none] [] σ' Q) :
    Wq 329 (d + 6) 69 [some (.ref 103), some (.int (nI f)), some (.int v2), none] [] σ Q := by
  have vf : vp_in (nI f) 20 := vp_in_nI hf20 (by decide)
  have cf : (nI f).toNatClampNeg = f := nI_clamp (by omega)
  have e4 : (4 : Int32) * nI f + nI k = nI (4 * f + k) := by
    rw [show (4 : Int32) = nI 4 from rfl, nI_mul, nI_add]
  have ck : (nI (4 * f + k)).toNatClampNeg = 4 * f + k := nI_clamp (by omega)
  have vi : vp_in (nI (4 * f + k)) 80 := vp_in_nI (by omega) (by decide)
  have ek : nI k + 1 = nI (k + 1) := (nI_succ k).symm
  have no : ∀ c j, 155 ≤ c → c ≤ 163 → fkMP c j = false := fun c j b1 b2 => fkMP_no (fkDM_1 b1 b2)
  refine S_M_definition_69 (d := d + 5) ⟨fun y => absurd y hv, fun _ => ⟨fun y => absurd h0 (h.lt.1.mp y), fun _ => ?_⟩⟩
  refine vV (u_name (d := d) h) fun σ1 ⟨h1, k1, e86, e87⟩ => ?_
  have P1 := h1.pp
  rw [cf, (P1 157 f (no 157 f (by decide) (by decide))).1, h157, e4, ck, e86]
  refine ⟨vf, vi, vi, ?_⟩
  generalize σ1.1 103 87 = v3 at e87 ⊢
  have d2 : Fr fkDM σ1 (sI (sI σ1 161 (4 * f + k) (nI (aA t n s.1))) 162 (4 * f + k) v3) := (Fr.rf.sI (fkDM_1 (by decide) (by decide))).sI (fkDM_1 (by decide) (by decide))
  have F2 : Fr (fkMA f) σ (sI (sI σ1 161 (4 * f + k) (nI (aA t n s.1))) 162 (4 * f + k) v3) := (P1.ma.sI (fkMA_2 (by decide) (by decide) (by omega))).sI (fkMA_2 (by decide) (by decide) (by omega))
  have h2 := h1.dm d2
  have k2 : Kp m σ (sI (sI σ1 161 (4 * f + k) (nI (aA t n s.1))) 162 (4 * f + k) v3) := k1.tr (Kp.dm d2)
  have r161 : (sI (sI σ1 161 (4 * f + k) (nI (aA t n s.1))) 162 (4 * f + k) v3).1 161 (4 * f + k) = nI (aA t n s.1) := (congrFun (sI_o (by decide)) _).trans sI_ss
  have r162 : (sI (sI σ1 161 (4 * f + k) (nI (aA t n s.1))) 162 (4 * f + k) v3).1 162 (4 * f + k) = v3 := sI_ss
  have r157 : (sI (sI σ1 161 (4 * f + k) (nI (aA t n s.1))) 162 (4 * f + k) v3).1 157 f = nI k := (congrFun (sI_o (by decide)) _).trans ((congrFun (sI_o (by decide)) _).trans ((P1 157 f (no 157 f (by decide) (by decide))).1.trans h157))
  have a2 : aM f L (sI (sI σ1 161 (4 * f + k) (nI (aA t n s.1))) 162 (4 * f + k) v3) := by
    intro i a hi
    obtain ⟨b1, b2, b3⟩ := ha i a hi
    have := (List.getElem?_eq_some_iff.mp hi).1
    exact ⟨(congrFun (sI_o (by decide)) _).trans ((sI_so (by omega)).trans ((P1 161 _ (no 161 _ (by decide) (by decide))).1.trans b1)), (sI_so (by omega)).trans ((congrFun (sI_o (by decide)) _).trans ((P1 162 _ (no 162 _ (by decide) (by decide))).1.trans b2)), (congrFun (sI_o (by decide)) _).trans ((congrFun (sI_o (by decide)) _).trans ((P1 163 _ (no 163 _ (by decide) (by decide))).1.trans b3))⟩
  generalize sI (sI σ1 161 (4 * f + k) (nI (aA t n s.1))) 162 (4 * f + k) v3 = σ2 at F2 h2 k2 r161 r162 r157 a2 ⊢
  refine vV (u_sign (d := d) (k := 58) (by decide) rfl h2) fun σ3 ⟨h3, k3⟩ => ?_
  rw [show eK t n (nI 58) (eK t n 1 s) = eK t n 58 (eK t n 1 s) from rfl] at h3
  refine vI (u_type (d := d) h3) fun x4 σ4 ⟨hx4, h4, k4⟩ => ⟨vi, vf, vf, ?_⟩
  rw [hx4]
  have P4 := h4.pp
  rw [(P4 157 f (no 157 f (by decide) (by decide))).1, r157, ek]
  have i4 : (pTyp t n (eK t n 58 (eK t n 1 s))).1.2.1 = none → kA t n s.1 = 1 := fun z => (eK_inv (eK_inv (pTyp_inv z).1).1).2.1
  generalize pTyp t n (eK t n 58 (eK t n 1 s)) = p at h4 hS hG i4 ⊢
  have d5 : Fr fkDM σ4 (sI (sI σ4 163 (4 * f + k) (nI p.2)) 157 f (nI (k + 1))) := (Fr.rf.sI (fkDM_1 (by decide) (by decide))).sI (fkDM_1 (by decide) (by decide))
  have F5 : Fr (fkMA f) σ (sI (sI σ4 163 (4 * f + k) (nI p.2)) 157 f (nI (k + 1))) := ((F2.tr P4.ma).sI (fkMA_2 (by decide) (by decide) (by omega))).sI fkMA_3
  have h5 := h4.dm d5
  have k5 : Kp m σ (sI (sI σ4 163 (4 * f + k) (nI p.2)) 157 f (nI (k + 1))) := ((k2.tr k3).tr k4).tr (Kp.dm d5)
  have q157 : (sI (sI σ4 163 (4 * f + k) (nI p.2)) 157 f (nI (k + 1))).1 157 f = nI (k + 1) := sI_ss
  have a5 : p.1.2.1 = none → aM f (L ++ [(aA t n s.1, zA t n s.1, p.2)]) (sI (sI σ4 163 (4 * f + k) (nI p.2)) 157 f (nI (k + 1))) := by
    intro z i a hi
    rcases Nat.lt_or_ge i L.length with c | c
    · rw [List.getElem?_append_left c] at hi
      obtain ⟨b1, b2, b3⟩ := a2 i a hi
      exact ⟨(congrFun (sI_o (by decide)) _).trans ((congrFun (sI_o (by decide)) _).trans ((P4 161 _ (no 161 _ (by decide) (by decide))).1.trans b1)), (congrFun (sI_o (by decide)) _).trans ((congrFun (sI_o (by decide)) _).trans ((P4 162 _ (no 162 _ (by decide) (by decide))).1.trans b2)), (congrFun (sI_o (by decide)) _).trans ((sI_so (by omega)).trans ((P4 163 _ (no 163 _ (by decide) (by decide))).1.trans b3))⟩
    · have hi2 := (List.getElem?_eq_some_iff.mp hi).1
      rw [List.length_append] at hi2
      have hi3 : i = k := by
        have : [(aA t n s.1, zA t n s.1, p.2)].length = 1 := rfl
        omega
      rw [List.getElem?_append_right c, hi3, hL, Nat.sub_self] at hi
      have ea : (aA t n s.1, zA t n s.1, p.2) = a := Option.some.inj hi
      subst ea
      rw [hi3]
      exact ⟨(congrFun (sI_o (by decide)) _).trans ((congrFun (sI_o (by decide)) _).trans ((P4 161 _ (no 161 _ (by decide) (by decide))).1.trans r161)), (congrFun (sI_o (by decide)) _).trans ((congrFun (sI_o (by decide)) _).trans ((P4 162 _ (no 162 _ (by decide) (by decide))).1.trans (r162.trans (e87 (i4 z))))), (congrFun (sI_o (by decide)) _).trans sI_ss⟩
  generalize sI (sI σ4 163 (4 * f + k) (nI p.2)) 157 f (nI (k + 1)) = σ5 at F5 h5 k5 q157 a5 ⊢
  refine vI (u_isSg (k := 44) (by decide) rfl h5) fun x6 σ6 ⟨e6, i6⟩ => ?_
  subst e6
  have b5 := h5.base
  rw [q157]
  refine ⟨fun y => ⟨fun _ => hS (fun c => i6.mp y ⟨c.1, c.2.1⟩) σ6 b5 F5 k5 q157 a5, fun y => absurd rfl y⟩, fun y => ⟨vf, fun y2 => ⟨fun _ => hS (fun c => absurd y2 (nI_ge (a := k + 1) (b := 4) c.2.2 (by decide))) σ6 b5 F5 k5 q157 a5, fun y => absurd rfl y⟩, fun y2 => ⟨fun y => absurd y (by decide), fun _ => ?_⟩⟩⟩
  have c := Classical.not_not.mp fun q => y (i6.mpr q)
  have k4' : k + 1 < 4 := by
    rcases Nat.lt_or_ge (k + 1) 4 with q | q
    · exact q
    · exact absurd (nI_le (a := 4) (b := k + 1) q (by omega)) y2
  refine vV (u_scan (d := d + 1) b5 c.1) fun σ7 ⟨h7, k7⟩ => ?_
  have P7 := h7.pp
  refine hG c.1 c.2 k4' σ7 h7.base (F5.tr P7.ma) (k5.tr k7) ((P7 157 f (no 157 f (by decide) (by decide))).1.trans q157) ?_
  intro i a hi
  obtain ⟨c1, c2, c3⟩ := a5 c.1 i a hi
  exact ⟨(P7 161 _ (no 161 _ (by decide) (by decide))).1.trans c1, (P7 162 _ (no 162 _ (by decide) (by decide))).1.trans c2, (P7 163 _ (no 163 _ (by decide) (by decide))).1.trans c3⟩
/-- ARGUMENTS -/
theorem m_dargs (hf20 : f < 20) {Q : Option Value → fkS → Prop} : ∀ (fu k : Nat) (s : PS) (σ : fkS) (L : List (Nat × Nat × Nat)) (v2 : Int32), fu + 1 + k = 4 → PN t n σ s m o σ → s.2.1 = none → ¬ v2 = 0 → L.length = k → σ.1 157 f = nI k → aM f L σ →
    (∀ σ', PN t n σ' (pAg t n (fu + 1) s).1 m o σ' → Fr (fkMA f) σ σ' → Kp m σ σ' → σ'.1 157 f = nI (k + (pAg t n (fu + 1) s).2.length) → ((pAg t n (fu + 1) s).1.2.1 = none → aM f (L ++ (pAg t n (fu + 1) s).2) σ') → Wq 329 (d + 6) 177 [some (.ref 103), some (.int (nI f)), none, none] [] σ' Q) →
    Wq 329 (d + 6) 69 [some (.ref 103), some (.int (nI f)), some (.int v2), none] [] σ Q := by
  intro fu
  induction fu with
  | zero =>
    intro k s σ L v2 hk h h0 hv hL h157 ha hQ
    rw [pAg, if_pos h0, if_neg (fun c => c.2.2 rfl)] at hQ
    refine m_darg hf20 (by omega) h h0 hv hL h157 ha (fun _ σ' g1 g2 g3 g4 g5 => ?_) (fun _ _ y => by omega)
    exact S_M_definition_69 (d := d + 5) ⟨fun _ => hQ σ' g1 g2 g3 g4 g5, fun y => absurd rfl y⟩
  | succ fu ih =>
    intro k s σ L v2 hk h h0 hv hL h157 ha hQ
    rw [pAg, if_pos h0] at hQ
    refine m_darg hf20 (by omega) h h0 hv hL h157 ha (fun c σ' g1 g2 g3 g4 g5 => ?_) (fun z k44 k4 σ' g1 g2 g3 g4 g5 => ?_)
    · rw [if_neg (fun c2 => c ⟨c2.1, c2.2.1, by omega⟩)] at hQ
      exact S_M_definition_69 (d := d + 5) ⟨fun _ => hQ σ' g1 g2 g3 g4 g5, fun y => absurd rfl y⟩
    · rw [if_pos ⟨z, k44, by omega⟩] at hQ
      refine ih (k + 1) _ σ' _ 1 (by omega) g1 rfl (by decide) (by rw [List.length_append, hL]; rfl) g4 g5 fun σ2 b1 b2 b3 b4 b5 => ?_
      refine hQ σ2 b1 (g2.tr b2) (g3.tr b3) (b4.trans ?_) (fun z => ?_)
      · congr 1
        show k + 1 + _ = k + ((pAg t n (fu + 1) (nxt (pTyp t n (eK t n 58 (eK t n 1 s))).1)).2.length + 1)
        omega
      · have := b5 z
        rw [List.append_assoc] at this
        exact this
theorem pAg_id {fu : Nat} (h : ¬ s.2.1 = none) : pAg t n fu s = (s, []) := by
  cases fu with
  | zero => rfl
  | succ fu => rw [pAg, if_neg h]
theorem pE_id {g : Nat} (h : ¬ s.2.1 = none) : pE t n g s = (s, .leaf) := by
  cases g with
  | zero => rw [pE, if_neg h]
  | succ g => rw [pE, if_neg h]
theorem pDf_id (h : ¬ (eK t n 4 s).2.1 = none) : (pDf t n s).1 = eK t n 4 s := by
  unfold pDf
  simp only
  generalize eK t n 4 s = s1 at h ⊢
  rw [eK_id (k := 1) h, eK_id (k := 40) h, pAg_id h]
  show eK t n 59 (pE t n 30 (eK t n 61 (pTyp t n (eK t n 58 (eK t n 41 s1))).1)).1 = s1
  rw [eK_id (k := 41) h, eK_id (k := 58) h, pTyp_id h, eK_id (k := 61) h, pE_id h]
  exact eK_id h
theorem row_m {c f2 : Nat} (hc : c = 155 ∨ c = 156 ∨ c = 158 ∨ c = 159 ∨ c = 160 ∨ c = 103 ∧ f2 = 97) {σ1 σ2 : fkS} (h : Fr (fkMA f) σ1 σ2) : σ2.1 c f2 = σ1.1 c f2 := (h c f2 (fkMA_1 hc)).1
/-- a DEFINITION -/
theorem m_def (hn : n ≤ 4000) {D : List FD} (hf : D.length = f) (hf20 : f < 20) (hd : 248 ≤ d + 5) (h : PN t n σ s m 0 σ) (h0 : s.2.1 = none) (h97 : σ.1 103 97 = nI f) (hD : dM D m σ) (hr : m + 3 * (401 - s.2.2) + 8 * 32 ≤ 3000) : Cv (d + 6) 329 [.ref 103] σ (fun σ' => ∃ m', PN t n σ' (pDf t n s).1 m' 0 σ' ∧ Fr (fkMX f) σ σ' ∧ ((pDf t n s).1.2.1 = none → σ'.1 103 97 = nI (f + 1) ∧ dM (D ++ [(pDf t n s).2]) m' σ' ∧ m' + 2 ≤ m + 3 * ((pDf t n s).1.2.2 - s.2.2))) := by
  have vi : vp_in (nI f) 20 := vp_in_nI hf20 (by decide)
  have ck : (nI f).toNatClampNeg = f := nI_clamp (by omega)
  have no : ∀ c j, 155 ≤ c → c ≤ 163 → fkMP c j = false := fun c j b1 b2 => fkMP_no (fkDM_1 b1 b2)
  have inv := pDf_inv (t := t) (s := s) hn
  have pid := pDf_id (t := t) (n := n) (s := s)
  refine S_M_definition (d := d + 5) (vV (u_word (d := d) (j := 0) (by decide) rfl h) fun σ1 ⟨h1, k1⟩ => ?_)
  rw [show eK t n (nI (4 + 0)) s = eK t n 4 s from rfl] at h1
  have P1 := h1.pp
  have e97 : σ1.1 103 97 = nI f := (P1 103 97 rfl).1.trans h97
  rw [e97, ck, (nI_succ f).symm]
  refine ⟨fun y => ?_, fun y => ?_⟩
  · unfold pDf at inv ⊢
    simp only at inv ⊢
    clear pid
    have z1 := h1.lt.2.mp y
    have ea1 : (eK t n 4 s).2.2 = s.2.2 := rfl
    generalize eK t n 4 s = s1 at h1 z1 inv ea1 ⊢
    have d2 : Fr fkDM σ1 (sI σ1 103 97 (nI (f + 1))) := Fr.rf.sI rfl
    have h2 := h1.dm d2
    have F2 : Fr (fkMX f) σ (sI σ1 103 97 (nI (f + 1))) := P1.mx.sI fkMX_3
    have k2 : Kp m σ (sI σ1 103 97 (nI (f + 1))) := k1.tr (Kp.dm d2)
    have r97 : (sI σ1 103 97 (nI (f + 1))).1 103 97 = nI (f + 1) := sI_ss
    generalize sI σ1 103 97 (nI (f + 1)) = σ2 at F2 h2 k2 r97 ⊢
    refine vV (u_name (d := d) h2) fun σ3 ⟨h3, k3, e86, e87⟩ => ⟨vi, vi, ?_⟩
    rw [e86]
    generalize σ3.1 103 87 = v3 at e87 ⊢
    have P3 := h3.pp
    have d4 : Fr fkDM σ3 (sI (sI σ3 155 f (nI (aA t n s1.1))) 156 f v3) := (Fr.rf.sI (fkDM_1 (by decide) (by decide))).sI (fkDM_1 (by decide) (by decide))
    have h4 := h3.dm d4
    have F4 : Fr (fkMX f) σ (sI (sI σ3 155 f (nI (aA t n s1.1))) 156 f v3) := ((F2.tr P3.mx).sI (fkMX_1 (by decide) (by decide))).sI (fkMX_1 (by decide) (by decide))
    have k4 : Kp m σ (sI (sI σ3 155 f (nI (aA t n s1.1))) 156 f v3) := (k2.tr k3).tr (Kp.dm d4)
    have r155 : (sI (sI σ3 155 f (nI (aA t n s1.1))) 156 f v3).1 155 f = nI (aA t n s1.1) := (congrFun (sI_o (by decide)) _).trans sI_ss
    have r156 : (sI (sI σ3 155 f (nI (aA t n s1.1))) 156 f v3).1 156 f = v3 := sI_ss
    have r97' : (sI (sI σ3 155 f (nI (aA t n s1.1))) 156 f v3).1 103 97 = nI (f + 1) := (congrFun (sI_o (by decide)) _).trans ((congrFun (sI_o (by decide)) _).trans ((P3 103 97 rfl).1.trans r97))
    generalize sI (sI σ3 155 f (nI (aA t n s1.1))) 156 f v3 = σ4 at F4 h4 k4 r155 r156 r97' ⊢
    refine vV (u_sign (d := d) (k := 40) (by decide) rfl h4) fun σ5 ⟨h5, k5⟩ => ⟨vi, ?_⟩
    rw [show eK t n (nI 40) (eK t n 1 s1) = eK t n 40 (eK t n 1 s1) from rfl] at h5
    have P5 := h5.pp
    have i2 : (eK t n 40 (eK t n 1 s1)).2.1 = none → kA t n s1.1 = 1 := fun z => (eK_inv (eK_inv z).1).2.1
    have ea2 : (eK t n 40 (eK t n 1 s1)).2.2 = s.2.2 := ea1
    generalize eK t n 40 (eK t n 1 s1) = s2 at h5 i2 ea2 inv ⊢
    have d6 : Fr fkDM σ5 (sI σ5 157 f (0 : Int32)) := Fr.rf.sI (fkDM_1 (by decide) (by decide))
    have h6 := h5.dm d6
    have F6 : Fr (fkMX f) σ (sI σ5 157 f (0 : Int32)) := (F4.tr P5.mx).sI (fkMX_1 (by decide) (by decide))
    have k6 : Kp m σ (sI σ5 157 f (0 : Int32)) := (k4.tr k5).tr (Kp.dm d6)
    have q155 : (sI σ5 157 f (0 : Int32)).1 155 f = nI (aA t n s1.1) := (congrFun (sI_o (by decide)) _).trans ((P5 155 f (no 155 f (by decide) (by decide))).1.trans r155)
    have q156 : (sI σ5 157 f (0 : Int32)).1 156 f = v3 := (congrFun (sI_o (by decide)) _).trans ((P5 156 f (no 156 f (by decide) (by decide))).1.trans r156)
    have q97 : (sI σ5 157 f (0 : Int32)).1 103 97 = nI (f + 1) := (congrFun (sI_o (by decide)) _).trans ((P5 103 97 rfl).1.trans r97')
    have q157 : (sI σ5 157 f (0 : Int32)).1 157 f = nI 0 := sI_ss
    generalize sI σ5 157 f (0 : Int32) = σ6 at F6 h6 k6 q155 q156 q97 q157 ⊢
    have rest : ∀ σ7, PN t n σ7 (pAg t n 4 s2).1 m 0 σ7 → Fr (fkMA f) σ6 σ7 → Kp m σ6 σ7 → σ7.1 157 f = nI (pAg t n 4 s2).2.length → ((pAg t n 4 s2).1.2.1 = none → aM f (pAg t n 4 s2).2 σ7) → Wq 329 (d + 6) 177 [some (.ref 103), some (.int (nI f)), none, none] [] σ7 (Qv fun σ' => ∃ m', PN t n σ' (eK t n 59 (pE t n 30 (eK t n 61 (pTyp t n (eK t n 58 (eK t n 41 (pAg t n 4 s2).1))).1)).1) m' 0 σ' ∧ Fr (fkMX f) σ σ' ∧ ((eK t n 59 (pE t n 30 (eK t n 61 (pTyp t n (eK t n 58 (eK t n 41 (pAg t n 4 s2).1))).1)).1).2.1 = none → σ'.1 103 97 = nI (f + 1) ∧ dM (D ++ [((aA t n s1.1, zA t n s1.1), (pAg t n 4 s2).2, (pTyp t n (eK t n 58 (eK t n 41 (pAg t n 4 s2).1))).2, aA t n (eK t n 61 (pTyp t n (eK t n 58 (eK t n 41 (pAg t n 4 s2).1))).1).1, (pE t n 30 (eK t n 61 (pTyp t n (eK t n 58 (eK t n 41 (pAg t n 4 s2).1))).1)).2)]) m' σ' ∧ m' + 2 ≤ m + 3 * ((eK t n 59 (pE t n 30 (eK t n 61 (pTyp t n (eK t n 58 (eK t n 41 (pAg t n 4 s2).1))).1)).1).2.2 - s.2.2))) := by
      intro σ7 h7 A7 k7 q7 ha
      have pinv := pAg_inv (t := t) (n := n) 4 s2
      generalize pAg t n 4 s2 = r2 at h7 ha q7 pinv inv ⊢
      refine S_M_definition_177 (d := d + 5) (vV (u_sign (d := d) (k := 41) (by decide) rfl h7) fun σ8 ⟨h8, k8⟩ => ?_)
      refine vV (u_sign (d := d) (k := 58) (by decide) rfl h8) fun σ9 ⟨h9, k9⟩ => ?_
      rw [show eK t n (nI 58) (eK t n (nI 41) r2.1) = eK t n 58 (eK t n 41 r2.1) from rfl] at h9
      refine vI (u_type (d := d) h9) fun x4 σ10 ⟨hx4, h10, k10⟩ => ⟨vi, ?_⟩
      rw [hx4, ck]
      have P10 := h10.pp
      have i3 : (pTyp t n (eK t n 58 (eK t n 41 r2.1))).1.2.1 = none → r2.1.2.1 = none := fun z => (eK_inv (eK_inv (pTyp_inv z).1).1).1
      have ea3 : (pTyp t n (eK t n 58 (eK t n 41 r2.1))).1.2.2 = r2.1.2.2 := rfl
      generalize pTyp t n (eK t n 58 (eK t n 41 r2.1)) = p3 at h10 i3 ea3 inv ⊢
      have d11 : Fr fkDM σ10 (sI σ10 158 f (nI p3.2)) := Fr.rf.sI (fkDM_1 (by decide) (by decide))
      have h11 := h10.dm d11
      have F11 : Fr (fkMX f) σ (sI σ10 158 f (nI p3.2)) := ((F6.tr A7.max).tr P10.mx).sI (fkMX_1 (by decide) (by decide))
      have k11 : Kp m σ (sI σ10 158 f (nI p3.2)) := ((((k6.tr k7).tr k8).tr k9).tr k10).tr (Kp.dm d11)
      have a11 : ∀ c j, 155 ≤ c → c ≤ 163 → c ≠ 158 → (sI σ10 158 f (nI p3.2)).1 c j = σ7.1 c j := fun c j b1 b2 b3 => (congrFun (sI_o b3) j).trans (P10 c j (no c j b1 b2)).1
      have b97 : (sI σ10 158 f (nI p3.2)).1 103 97 = nI (f + 1) := (congrFun (sI_o (by decide)) _).trans ((P10 103 97 rfl).1.trans ((row_m (by omega) A7).trans q97))
      have q158 : (sI σ10 158 f (nI p3.2)).1 158 f = nI p3.2 := sI_ss
      generalize sI σ10 158 f (nI p3.2) = σ11 at F11 h11 k11 a11 b97 q158 ⊢
      refine vV (u_sign (d := d) (k := 61) (by decide) rfl h11) fun σ12 ⟨h12, k12⟩ => ⟨vi, ?_⟩
      rw [show eK t n (nI 61) p3.1 = eK t n 61 p3.1 from rfl] at h12
      rw [h12.at]
      have P12 := h12.pp
      have i4 : (eK t n 61 p3.1).2.1 = none → p3.1.2.1 = none := fun z => (eK_inv z).1
      have ea4 : (eK t n 61 p3.1).2.2 = p3.1.2.2 := rfl
      generalize eK t n 61 p3.1 = s4 at h12 i4 ea4 inv ⊢
      have aa : s4.2.1 = none → s4.2.2 = s.2.2 := fun z => by rw [ea4, ea3, (pinv (i3 (i4 z))).2.1, ea2]
      have d13 : Fr fkDM σ12 (sI σ12 160 f (nI (aA t n s4.1))) := Fr.rf.sI (fkDM_1 (by decide) (by decide))
      have h13 := h12.dm d13
      have F13 : Fr (fkMX f) σ (sI σ12 160 f (nI (aA t n s4.1))) := (F11.tr P12.mx).sI (fkMX_1 (by decide) (by decide))
      have k13 : Kp m σ (sI σ12 160 f (nI (aA t n s4.1))) := (k11.tr k12).tr (Kp.dm d13)
      have a13 : ∀ c j, 155 ≤ c → c ≤ 163 → c ≠ 160 → (sI σ12 160 f (nI (aA t n s4.1))).1 c j = σ11.1 c j := fun c j b1 b2 b3 => (congrFun (sI_o b3) j).trans (P12 c j (no c j b1 b2)).1
      have c97 : (sI σ12 160 f (nI (aA t n s4.1))).1 103 97 = nI (f + 1) := (congrFun (sI_o (by decide)) _).trans ((P12 103 97 rfl).1.trans b97)
      have q160 : (sI σ12 160 f (nI (aA t n s4.1))).1 160 f = nI (aA t n s4.1) := sI_ss
      generalize sI σ12 160 f (nI (aA t n s4.1)) = σ13 at F13 h13 k13 a13 c97 q160 ⊢
      refine vI (y_E hn 30 (Nat.le_refl _) (d + 5) (by omega) s4 m σ13 h13 (fun z => by rw [aa z]; omega)) fun x7 σ14 y14 => ⟨vi, ?_⟩
      obtain ⟨m', h14, k14, y3, y4, y5, y6⟩ := y14
      have P14 := h14.pp
      have d15 : Fr fkDM σ14 (sI σ14 159 f x7) := Fr.rf.sI (fkDM_1 (by decide) (by decide))
      have h15 := h14.dm d15
      have F15 : Fr (fkMX f) σ (sI σ14 159 f x7) := (F13.tr P14.mx).sI (fkMX_1 (by decide) (by decide))
      have k15 : Kp m σ (sI σ14 159 f x7) := (k13.tr k14).tr (Kp.dm d15)
      have a15 : ∀ c j, 155 ≤ c → c ≤ 163 → c ≠ 159 → (sI σ14 159 f x7).1 c j = σ13.1 c j := fun c j b1 b2 b3 => (congrFun (sI_o b3) j).trans (P14 c j (no c j b1 b2)).1
      have g97 : (sI σ14 159 f x7).1 103 97 = nI (f + 1) := (congrFun (sI_o (by decide)) _).trans ((P14 103 97 rfl).1.trans c97)
      have q159 : (sI σ14 159 f x7).1 159 f = x7 := sI_ss
      have kAt : Kp m' σ14 (sI σ14 159 f x7) := Kp.dm d15
      generalize sI σ14 159 f x7 = σ15 at F15 h15 k15 a15 g97 q159 kAt ⊢
      refine vV (u_sign (d := d) (k := 59) (by decide) rfl h15) fun σ16 ⟨h16, k16⟩ => ?_
      rw [show eK t n (nI 59) (pE t n 30 s4).1 = eK t n 59 (pE t n 30 s4).1 from rfl] at h16
      have P16 := h16.pp
      refine ⟨m', h16.base, F15.tr P16.mx, fun z => ?_⟩
      have z5 := (eK_inv z).1
      obtain ⟨y7, y8⟩ := y6 z5
      obtain ⟨G1, -⟩ := Gd_E (t := t) hn 30 s4 z5
      have z3 := i4 G1
      have z2 := i3 z3
      obtain ⟨n1, n2, n3, n4, n5⟩ := pinv z2
      have tr : ∀ c j, 155 ≤ c → c ≤ 163 → c ≠ 158 → c ≠ 159 → c ≠ 160 → σ16.1 c j = σ7.1 c j := fun c j b1 b2 b3 b4 b5 => (P16 c j (no c j b1 b2)).1.trans ((a15 c j b1 b2 b4).trans ((a13 c j b1 b2 b5).trans (a11 c j b1 b2 b3)))
      refine ⟨(P16 103 97 rfl).1.trans g97, ?_, ?_⟩
      · intro i q hq
        rcases Nat.lt_or_ge i D.length with c | c
        · rw [List.getElem?_append_left c] at hq
          exact (hD.fr (F15.tr P16.mx) (by omega) (k15.tr (k16.le (by omega))) y3) i q hq
        · have hi2 := (List.getElem?_eq_some_iff.mp hq).1
          rw [List.length_append] at hi2
          have hi3 : i = f := by
            have e : ∀ x : FD, [x].length = 1 := fun _ => rfl
            rw [e] at hi2
            omega
          rw [List.getElem?_append_right c, hi3, hf, Nat.sub_self] at hq
          have ea := Option.some.inj hq
          subst ea
          rw [hi3]
          refine ⟨(tr 155 f (by decide) (by decide) (by decide) (by decide) (by decide)).trans ((row_m (by omega) A7).trans q155), (tr 156 f (by decide) (by decide) (by decide) (by decide) (by decide)).trans ((row_m (by omega) A7).trans (q156.trans (e87 (i2 n1)))), (tr 157 f (by decide) (by decide) (by decide) (by decide) (by decide)).trans q7, ?_, ?_, n4, fun k a hk => ?_, ?_⟩
          · exact (P16 158 f (no 158 f (by decide) (by decide))).1.trans ((a15 158 f (by decide) (by decide) (by decide)).trans ((a13 158 f (by decide) (by decide) (by decide)).trans q158))
          · exact (P16 160 f (no 160 f (by decide) (by decide))).1.trans ((a15 160 f (by decide) (by decide) (by decide)).trans q160)
          · obtain ⟨b1, b2, b3⟩ := ha z2 k a hk
            exact ⟨(tr 161 _ (by decide) (by decide) (by decide) (by decide) (by decide)).trans b1, (tr 162 _ (by decide) (by decide) (by decide) (by decide) (by decide)).trans b2, (tr 163 _ (by decide) (by decide) (by decide) (by decide) (by decide)).trans b3⟩
          · rw [(P16 159 f (no 159 f (by decide) (by decide))).1, q159]
            exact ((kAt.tr k16).at (Nat.le_refl _) y8).wide (Nat.zero_le _) (Nat.le_refl _)
      · show m' + 2 ≤ m + 3 * ((pE t n 30 s4).1.2.2 - s.2.2)
        rw [aa G1] at y7
        exact y7
    by_cases z : s2.2.1 = none
    · refine m_dargs hf20 3 0 s2 σ6 [] 1 rfl h6 z (by decide) rfl q157 (fun k a hk => by simp at hk) fun σ7 g1 g2 g3 g4 g5 => rest σ7 g1 g2 g3 (by rw [g4, Nat.zero_add]) g5
    · have ep : pAg t n 4 s2 = (s2, []) := pAg_id z
      have r := rest σ6 (by rw [ep]; exact h6) Fr.rf Kp.rf (by rw [ep]; exact q157) (by rw [ep]; exact fun y => absurd y z)
      refine S_M_definition_69 (d := d + 5) ⟨fun y => absurd y (by decide), fun _ => ⟨fun _ => r, fun y => absurd (h6.lt.1.mpr z) y⟩⟩
  · have z : ¬ (eK t n 4 s).2.1 = none := fun c => y (h1.lt.2.mpr c)
    rw [pid z] at *
    exact ⟨m, h1.base, P1.mx, fun c => absurd c z⟩
end DM
