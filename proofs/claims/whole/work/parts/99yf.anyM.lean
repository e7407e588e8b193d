/-! THE REFERENCE reads an ATOM with its signs; an E -/
section YN
variable {t : Nat → UInt8} {n d o g mb : Nat} {σ0 σ σE : fkS} {s : PS} {E : PS → PS × Tr}
theorem y_negW (hn : n ≤ 4000) (hw : ∀ s, (E s).1.2.1 = none → s.2.1 = none) (hE : YE t n σ0 (d + 5) g o E) (h0 : s.2.1 = none) (hr : mb + 3 * (401 - s.2.2) + (8 * (g + 2) + 4) ≤ 3000) : ∀ (f i j : Nat) (σ : fkS) (v1 v2 : Int32), f + (j + s.2.2) = 400 → PN t n σ0 (i, none, s.2.2 + j) (mb + j) o σ → Kp mb σE σ → (∀ q, q < j → σ.1 164 (mb + q) = 1) → (∀ q, q + 1 < j → σ.1 166 (mb + q) = nI (mb + q + 1)) → (1 ≤ j → σ.1 169 (mb + j - 1) = nI (aA t n i)) → (j = 0 → v1 = -1 ∧ v2 = -1) → (1 ≤ j → v1 = nI mb ∧ v2 = nI (mb + j - 1)) →
    Wq 346 (d + 7) 4 [some (.ref 103), some (.int v1), some (.int v2), none] [] σ (Qi (YT t n σ0 o (8 * (g + 1) + 4) s mb σE (if (pNg t n f i j).2.1 = none then ((pPl t n E ((pNg t n f i j).1, (pNg t n f i j).2.1, s.2.2 + (pNg t n f i j).2.2 + 1)).1, if (pNg t n f i j).2.2 = 0 then (pPl t n E ((pNg t n f i j).1, (pNg t n f i j).2.1, s.2.2 + (pNg t n f i j).2.2 + 1)).2 else nd 1 (pNg t n f i j).2.2 (aA t n (pNg t n f i j).1) 0 0 (pPl t n E ((pNg t n f i j).1, (pNg t n f i j).2.1, s.2.2 + (pNg t n f i j).2.2 + 1)).2 .leaf) else (((pNg t n f i j).1, (pNg t n f i j).2.1, s.2.2 + (pNg t n f i j).2.2 + 1), .leaf)))) := by
  intro f
  induction f with
  | zero =>
    intro i j σ v1 v2 hf h hK _ _ _ _ _
    have ec : ca t n (i, none, s.2.2 + j) = (i, some (aA t n i), s.2.2 + j + 1) := by
      unfold ca
      rw [if_neg (by show ¬ s.2.2 + j < 400; omega)]
    have bad : ∀ σ3, PN t n σ0 (i, some (aA t n i), s.2.2 + j + 1) (mb + j) o σ3 → Kp (mb + j) σ σ3 → YT t n σ0 o (8 * (g + 1) + 4) s mb σE (((i : Nat), some (aA t n i), s.2.2 + j + 1), .leaf) (0 : Int32) σ3 := by
      intro σ3 h3 k3
      refine ⟨mb + j, h3, hK.tr (k3.le (by omega)), by omega, by show s.2.2 ≤ s.2.2 + j + 1; omega, by show mb + j ≤ mb + 3 * (s.2.2 + j + 1 - s.2.2) + _; omega, fun z => by cases z⟩
    refine S_M_atom_4 (d := d + 6) (vI (u_isSg (k := 45) (by decide) rfl h) fun x1 σ1 ⟨e1, i1⟩ => ?_)
    subst e1
    refine ⟨fun _ => ?_, fun _ => ?_⟩
    · refine vI (u_room (d := d + 5) h rfl) fun x2 σ2 ⟨h2, k2, i2⟩ => ?_
      rw [ec] at h2
      exact ⟨fun y => absurd (i2.mpr (by show ¬ s.2.2 + j < 400; omega)) y, fun _ => bad σ2 h2 k2⟩
    · refine vI (u_room (d := d + 5) h rfl) fun x2 σ2 ⟨h2, k2, i2⟩ => ?_
      rw [ec] at h2
      exact ⟨fun y => absurd (i2.mpr (by show ¬ s.2.2 + j < 400; omega)) y, fun _ => bad σ2 h2 k2⟩
  | succ f ih =>
    intro i j σ v1 v2 hf h hK g1 g2 g3 gv0 gv1
    have ec : ca t n (i, none, s.2.2 + j) = (i, none, s.2.2 + j + 1) := by
      unfold ca
      rw [if_pos (by show s.2.2 + j < 400; omega)]
    have hlt : (i, (none : Option Nat), s.2.2 + j).2.2 < 400 := by show s.2.2 + j < 400; omega
    rw [pNg]
    refine S_M_atom_4 (d := d + 6) (vI (u_isSg (k := 45) (by decide) rfl h) fun x1 σ1 ⟨e1, i1⟩ => ?_)
    subst e1
    refine ⟨fun y1 => ?_, fun y1 => ?_⟩
    · have n45 : ¬ kA t n i = 45 := fun q => i1.mp y1 ⟨rfl, q⟩
      rw [if_neg n45]
      refine vI (u_room (d := d + 5) h rfl) fun x2 σ2 ⟨h2, k2, i2⟩ => ?_
      rw [ec] at h2
      refine ⟨fun _ => ?_, fun y => absurd hlt (i2.mp y)⟩
      rw [h2.at]
      simp only
      rw [if_pos trivial]
      refine vI (y_simple (d := d) hn hw hE h2 rfl (by show 1 ≤ s.2.2 + j + 1; omega) (by show mb + j + 3 * (401 - (s.2.2 + j + 1)) + (8 * (g + 2) + 4) ≤ 3000; omega)) fun x6 σ5 y5 => ?_
      obtain ⟨m', a1, a2, a3, a4, a5, a6⟩ := y5
      generalize pPl t n E (i, none, s.2.2 + j + 1) = r at a1 a4 a5 a6 ⊢
      have a4' : s.2.2 + j + 1 - 1 ≤ r.1.2.2 := a4
      have a5' : m' ≤ mb + j + 3 * (r.1.2.2 - (s.2.2 + j + 1 - 1)) + (if (none : Option Nat) = none then 8 * (g + 1) + 4 else 0) := a5
      rw [if_pos rfl] at a5'
      have a6' : r.1.2.1 = none → m' + 2 ≤ mb + j + 3 * (r.1.2.2 - (s.2.2 + j + 1 - 1)) := fun z => (a6 z).1
      have m3 := a1.2.2.2.2.2.2.1
      have kk := k2.tr a2
      refine ⟨fun y => ?_, fun y => ?_⟩
      · have hj : 1 ≤ j := by
          rcases Nat.eq_zero_or_pos j with c | c
          · rw [(gv0 c).2] at y; exact absurd y (by decide)
          · exact c
        obtain ⟨rfl, rfl⟩ := gv1 hj
        have ck : (nI (mb + j - 1)).toNatClampNeg = mb + j - 1 := nI_clamp (by omega)
        rw [ck, if_neg (by omega)]
        refine ⟨vp_in_nI (by omega) (by decide), m', a1.st (by decide) (by decide), ((hK.tr (kk.le (by omega)))).st (by omega), by omega, by show s.2.2 ≤ r.1.2.2; omega, by show m' ≤ mb + 3 * (r.1.2.2 - s.2.2) + _; rw [if_pos h0]; omega, fun z => ?_⟩
        have b1 := a6' z
        have b2 := (a6 z).2
        have e164 : ∀ q, q < j → (sI σ5 166 (mb + j - 1) x6).1 164 (mb + q) = 1 := fun q hq => (congrFun (sI_o (by decide)) _).trans ((kk 164 (mb + q) (by decide) (by decide) (by omega)).trans (g1 q hq))
        refine ⟨by show m' + 2 ≤ mb + 3 * (r.1.2.2 - s.2.2); omega, at_1.mpr ⟨mb, rfl, Nat.le_refl _, by omega, hj, by omega, e164, fun q hq => ?_, ?_, ?_⟩⟩
        · exact (sI_so (by omega)).trans ((kk 166 (mb + q) (by decide) (by decide) (by omega)).trans (g2 q hq))
        · exact (congrFun (sI_o (by decide)) _).trans ((kk 169 (mb + j - 1) (by decide) (by decide) (by omega)).trans (g3 hj))
        · rw [sI_ss]
          exact (b2.so (Or.inl (by omega))).wide (by omega) (Nat.le_refl _)
      · have hj : j = 0 := by
          rcases Nat.eq_zero_or_pos j with c | c
          · exact c
          · rw [(gv1 c).2] at y; exact absurd (nI_pos' (by omega)) y
        subst hj
        rw [if_pos rfl]
        exact ⟨m', a1, hK.tr (kk.le (by omega)), by omega, by show s.2.2 ≤ r.1.2.2; omega, by show m' ≤ mb + 3 * (r.1.2.2 - s.2.2) + _; rw [if_pos h0]; omega, fun z => ⟨by have := a6' z; show m' + 2 ≤ mb + 3 * (r.1.2.2 - s.2.2); omega, (a6 z).2⟩⟩
    · have k45 : kA t n i = 45 := (Classical.not_not.mp fun q => y1 (i1.mpr q)).2
      rw [if_pos k45]
      refine vI (u_room (d := d + 5) h rfl) fun x2 σ2 ⟨h2, k2, i2⟩ => ?_
      rw [ec] at h2
      refine ⟨fun _ => ?_, fun y => absurd hlt (i2.mp y)⟩
      refine vI (u_node h2 (by omega)) fun x σ3 ⟨hx, h3, k3, gg, r3⟩ => ?_
      subst hx
      have D1 := ND.mk h3 (k2.tr k3) r3
      refine vV (u_scan (d := d + 2) D1.1 rfl) fun σ4 ⟨h4, k4⟩ => ⟨D1.vi, ?_⟩
      have D2 := D1.to h4 k4
      rw [D2.1.at, D2.ck]
      have D3 := D2.st (c := 169) (v := nI (aA t n (i + 1))) (by decide) (by decide)
      have kk : Kp (mb + j) σ1 (sI σ4 169 (mb + j) (nI (aA t n (i + 1)))) := D3.2.1
      refine ⟨fun y => ?_, fun y => ?_⟩
      · have hj : 1 ≤ j := by
          rcases Nat.eq_zero_or_pos j with c | c
          · rw [(gv0 c).2] at y; exact absurd y (by decide)
          · exact c
        obtain ⟨rfl, rfl⟩ := gv1 hj
        have ck : (nI (mb + j - 1)).toNatClampNeg = mb + j - 1 := nI_clamp (by omega)
        rw [ck]
        refine ⟨vp_in_nI (by omega) (by decide), ?_⟩
        refine ih (i + 1) (j + 1) _ _ _ (by omega) (D3.1.st (by decide) (by decide)) ((hK.tr (kk.le (by omega))).st (by omega)) (fun q hq => ?_) (fun q hq => ?_) (fun _ => ?_) (fun z => by omega) (fun _ => ⟨rfl, rfl⟩)
        · refine (congrFun (sI_o (by decide)) _).trans ?_
          by_cases c : q = j
          · subst c; exact D3.row (c := 164) (by decide) (by decide)
          · exact (kk 164 (mb + q) (by decide) (by decide) (by omega)).trans (g1 q (by omega))
        · by_cases c : q + 1 = j
          · have eq : mb + q = mb + j - 1 := by omega
            rw [eq, sI_ss]
            congr 1
            omega
          · exact (sI_so (by omega)).trans ((kk 166 (mb + q) (by decide) (by decide) (by omega)).trans (g2 q (by omega)))
        · exact (congrFun (sI_o (by decide)) _).trans (D3.row (c := 169) (by decide) (by decide))
      · have hj : j = 0 := by
          rcases Nat.eq_zero_or_pos j with c | c
          · exact c
          · rw [(gv1 c).2] at y; exact absurd (nI_pos' (by omega)) y
        subst hj
        refine ih (i + 1) 1 _ _ _ (by omega) D3.1 (hK.tr (kk.le (by omega))) (fun q hq => ?_) (fun q hq => by omega) (fun _ => ?_) (fun z => by omega) (fun _ => ⟨rfl, rfl⟩)
        · have : q = 0 := by omega
          subst this
          exact D3.row (c := 164) (by decide) (by decide)
        · exact D3.row (c := 169) (by decide) (by decide)
theorem y_at (hn : n ≤ 4000) (hw : ∀ s, (E s).1.2.1 = none → s.2.1 = none) (hE : YE t n σ0 (d + 5) g o E) : XP t n σ0 (d + 7) 346 o (8 * (g + 1) + 4) (8 * (g + 2) + 4) (pAt t n E) := by
  intro s m σ h h0 hr
  have h4 := h.2.2.2.2.1 h0
  have hs : s = (s.1, none, s.2.2 + 0) := by rw [← h0]; rfl
  rw [hs] at h
  refine S_M_atom (d := d + 6) ?_
  unfold pAt
  exact y_negW (s := s) hn hw hE h0 hr (400 - s.2.2) s.1 0 σ (-1) (-1) (by omega) h Kp.rf (fun q hq => by omega) (fun q hq => by omega) (fun z => by omega) (fun _ => ⟨rfl, rfl⟩) (fun z => by omega)
/-- opens -/
theorem PN.op1 {m o2 : Nat} {v : Int32} (h : PN t n σ0 s m o σ) (hv : v = nI o2) : PN t n σ0 s m o2 (sI σ 103 113 v) := by
  subst hv
  have f0 : Fr (fun c j => Nat.beq c 103 && Nat.beq j 113) σ (sI σ 103 113 (nI o2)) := Fr.rf.sI rfl
  obtain ⟨h1, h2, h3, h4, h5, h6, h7, h8⟩ := h
  exact ⟨h1.fg f0 rfl rfl rfl rfl rfl rfl rfl (fun _ => rfl), (f0 103 112 rfl).1.trans h2, (f0 103 111 rfl).1.trans h3, sI_ss, h5, h6, h7, h8.sI rfl⟩
theorem kp_op {m : Nat} {v : Int32} : Kp m σ (sI σ 103 113 v) := fun c j a1 _ _ => congrFun (sI_o (by omega)) j
/-- an E -/
theorem y_E (hn : n ≤ 4000) : ∀ (g : Nat), g ≤ 30 → ∀ (d : Nat), 8 * g + 8 ≤ d → YE t n σ0 d g (30 - g) (pE t n g) := by
  intro g
  induction g with
  | zero =>
    intro _ d hd s m σ h hr
    obtain ⟨e, rfl⟩ : ∃ e, d = e + 1 := ⟨d - 1, by omega⟩
    rw [pE]
    refine S_M_anyE (d := e) ⟨fun y => ?_, fun y => ?_⟩
    · have z := h.lt.2.mp y
      rw [if_pos z]
      refine ⟨fun q => absurd h.2.2.2.1 q, fun _ => ?_⟩
      rw [h.at]
      refine vV (u_wrong rfl h z) fun σ1 ⟨h1, k1⟩ => ?_
      exact ⟨m, h1, k1, Nat.le_refl _, Nat.le_refl _, by show m ≤ m + 3 * (s.2.2 - s.2.2) + _; omega, fun z => by cases z⟩
    · have z : ¬ s.2.1 = none := fun c => y (h.lt.2.mpr c)
      rw [if_neg z]
      exact ⟨m, h, Kp.rf, Nat.le_refl _, Nat.le_refl _, by show m ≤ m + 3 * (s.2.2 - s.2.2) + _; omega, fun q => absurd q z⟩
  | succ g ih =>
    intro hg d hd s m σ h hr
    obtain ⟨e, rfl⟩ : ∃ e, d = e + 16 := ⟨d - 16, by omega⟩
    have E := fun (d : Nat) (hd : 8 * g + 8 ≤ d) => ih (by omega) d hd
    have hw : ∀ s, (pE t n g s).1.2.1 = none → s.2.1 = none := fun s h => (Gd_E hn g s h).1
    have A : XP t n σ0 (e + 12) 346 (30 - g) (8 * (g + 1) + 4) (8 * (g + 2) + 4) (pAt t n (pE t n g)) := y_at (d := e + 5) hn hw (E _ (by omega))
    have A2 : XP t n σ0 (e + 13) 345 (30 - g) (8 * (g + 1) + 4) (8 * (g + 2) + 4) (pP2 t n (pE t n g)) := y_prod (d := e + 8) A
    have A1 : XP t n σ0 (e + 14) 344 (30 - g) (8 * (g + 1) + 4) (8 * (g + 2) + 4) (pP1 t n (pE t n g)) := y_sum (d := e + 9) A2
    rw [pE]
    refine S_M_anyE (d := e + 15) ⟨fun y => ?_, fun y => ?_⟩
    · have z := h.lt.2.mp y
      rw [if_pos z]
      have hr' := hr z
      have e113 := h.2.2.2.1
      refine ⟨fun _ => ?_, fun q => ?_⟩
      · rw [h.at, e113, (nI_succ (30 - (g + 1))).symm]
        have eo : 30 - (g + 1) + 1 = 30 - g := by omega
        rw [eo]
        have h1 : PN t n σ0 s m (30 - g) (sI σ 103 113 (nI (30 - g))) := h.op1 rfl
        have k1 : Kp m σ (sI σ 103 113 (nI (30 - g))) := kp_op
        generalize sI σ 103 113 (nI (30 - g)) = σ1 at h1 k1 ⊢
        -- the end of it
        have fin : ∀ {K : Nat} {r : PS × Tr} {x : Int32} {σ2 : fkS}, K ≤ 8 * (g + 1 + 1) → YT t n σ0 (30 - g) K s m σ1 r x σ2 → YT t n σ0 (30 - (g + 1)) (8 * (g + 1 + 1)) s m σ r x (sI σ2 103 113 (σ2.1 103 113 - 1)) := by
          intro K r x σ2 hK y2
          obtain ⟨m', a1, a2, a3, a4, a5, a6⟩ := y2
          rw [if_pos z] at a5
          have a1' : PN t n σ0 r.1 m' (30 - (g + 1)) (sI σ2 103 113 (σ2.1 103 113 - 1)) := a1.op1 (by rw [a1.2.2.2.1, show (1 : Int32) = nI 1 from rfl, nI_sub (by omega)]; congr 1)
          refine ⟨m', a1', (k1.tr a2).tr kp_op, a3, a4, by rw [if_pos z]; omega, fun q => ⟨(a6 q).1, kp_op.at (Nat.le_refl _) (a6 q).2⟩⟩
        refine vI (u_isKw (d := e + 11) (j := 1) (by decide) rfl h1) fun x2 σ2 ⟨e2, i2⟩ => ?_
        subst e2
        refine ⟨fun y2 => ?_, fun y2 => ?_⟩
        · have n5 : ¬ kA t n s.1 = 5 := fun q => i2.mp y2 ⟨z, q⟩
          refine vI (u_isKw (d := e + 11) (j := 3) (by decide) rfl h1) fun x3 σ3 ⟨e3, i3⟩ => ?_
          subst e3
          refine ⟨fun y3 => ?_, fun y3 => ?_⟩
          · have n7 : ¬ kA t n s.1 = 7 := fun q => i3.mp y3 ⟨z, q⟩
            refine vI (u_isKw (d := e + 11) (j := 6) (by decide) rfl h1) fun x4 σ4 ⟨e4, i4⟩ => ?_
            subst e4
            refine ⟨fun y4 => ?_, fun y4 => ?_⟩
            · have n10 : ¬ kA t n s.1 = 10 := fun q => i4.mp y4 ⟨z, q⟩
              rw [if_neg n5, if_neg n7, if_neg n10]
              exact vI (y_cmp (d := e + 10) A1 h1 z (by omega)) fun x σ5 y5 => fin (by omega) y5
            · have k10 : kA t n s.1 = 10 := (Classical.not_not.mp fun q => y4 (i4.mpr q)).2
              rw [if_neg n5, if_neg n7, if_pos k10]
              exact vI (y_ma (d := e + 9) hw (E _ (by omega)) h1 z (by omega)) fun x σ5 y5 => fin (by omega) y5
          · have k7 : kA t n s.1 = 7 := (Classical.not_not.mp fun q => y3 (i3.mpr q)).2
            rw [if_neg n5, if_pos k7]
            exact vI (y_if (d := e + 9) hw (E _ (by omega)) h1 z (by omega)) fun x σ5 y5 => fin (by omega) y5
        · have k5 : kA t n s.1 = 5 := (Classical.not_not.mp fun q => y2 (i2.mpr q)).2
          rw [if_pos k5]
          exact vI (y_let (d := e + 9) hw (E _ (by omega)) h1 z (by omega)) fun x σ5 y5 => fin (by omega) y5
      · rw [e113] at q
        have := (nI_eq (a := 30 - (g + 1)) (b := 30) (by omega) (by decide)).mp q
        omega
    · have z : ¬ s.2.1 = none := fun c => y (h.lt.2.mpr c)
      rw [if_neg z]
      exact ⟨m, h, Kp.rf, Nat.le_refl _, Nat.le_refl _, by show m ≤ m + 3 * (s.2.2 - s.2.2) + _; omega, fun q => absurd q z⟩
end YN
