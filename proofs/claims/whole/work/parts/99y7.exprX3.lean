/-! THE CLASS reads an E: NAMES, ATOMS, signs -/
section XR
variable {t : Nat → UInt8} {n d : Nat} {σ0 σ : fkS} {s : PS} {C : List cdE} {o : Int32} {E : PS → PS × Tr}
theorem Go.one {T : Tr} {e : cdE} (hl : ln T = 1) (hc : cr t T C.length = [e]) : Go t T s C (cdA C e) := by
  refine ⟨cdA_len.1, fun _ hr => ?_⟩
  rw [hl] at hr
  rw [cdA_go (by omega), hc]
theorem x_nc (hw : ∀ s, (E s).1.2.1 = none → s.2.1 = none) (hX : XE t n σ0 (d + 1) 188 [.ref 88, .int (o + 1)] E) (h : PC t n σ0 s C σ) (h0 : s.2.1 = none) (hk : kA t n s.1 = 1) : Dv (d + 2) 200 [.ref 88, .int o] σ (fun σ' => ∃ C', PC t n σ0 (pPl t n E s).1 C' σ' ∧ Go t (pPl t n E s).2 (pPl t n E s).1 C C') := by
  unfold pPl
  rw [if_pos hk]
  refine S_Parser_nameOrCall (d := d + 1) h.r0 (yV rfl (x_step h h0) fun σ1 h1 w1 => ?_)
  rw [w1, h1.kind, h.nm hk, h.at]
  refine ⟨fun y => ?_, fun y => ⟨by decide, ?_⟩⟩
  · rw [if_pos (show kA t n (s.1 + 1) = 40 from y)]
    refine yV (h.re h1) (x_step h1 rfl) fun σ2 h2 w2 => ?_
    rw [w2]
    refine w_call (d := d + 1) hw hX 401 0 _ C σ2 rfl h2 rfl fun C' σ' h3 g3 => ?_
    refine yV rfl (x_exp h3) fun σ4 h4 w4 => ⟨by decide, ?_⟩
    rw [w4]
    refine yI (h3.re h4) (x_add h4) fun _ σ5 ⟨_, h5⟩ w5 => ?_
    show (sW σ5 σ').2.2 = σ.2.2 ∧ _
    rw [w5, Nat.zero_add] at *
    refine ⟨h.re h5, _, h5, Nat.le_trans g3.1 cdA_len.1, fun z hr => ?_⟩
    obtain ⟨z1, -, -⟩ := eK_inv z
    rw [ln_3] at hr
    have e1 := g3.2 z1 (by omega)
    have l1 := g3.len z1 (by omega)
    rw [cdA_go (by omega), cr_3, e1]
    simp only [List.append_assoc]
  · rw [if_neg (show ¬ kA t n (s.1 + 1) = 40 from y)]
    refine yI (h.re h1) (x_add h1) fun _ σ2 ⟨_, h2⟩ w2 => ?_
    show (sW σ2 σ).2.2 = σ.2.2 ∧ _
    rw [w2]
    exact ⟨h.re h2, _, h2, Go.one rfl rfl⟩
theorem kA_toInt {i : Nat} {k : Int32} {z : Int} (hk : k.toInt = z) : (kA t n i).toInt = z ↔ kA t n i = k := i32_toInt hk
theorem x_pl (hw : ∀ s, (E s).1.2.1 = none → s.2.1 = none) (hX : XE t n σ0 (d + 1) 188 [.ref 88, .int (o + 1)] E) (hX2 : XE t n σ0 (d + 2) 188 [.ref 88, .int (o + 1)] E) (hX0 : XE t n σ0 d 188 [.ref 88, .int (o + 1)] E) (h : PC t n σ0 s C σ) (h0 : s.2.1 = none) : Dv (d + 3) 199 [.ref 88, .int o] σ (fun σ' => ∃ C', PC t n σ0 (pPl t n E s).1 C' σ' ∧ Go t (pPl t n E s).2 (pPl t n E s).1 C C') := by
  refine S_Parser_plainAtom (d := d + 2) h.r0 ?_
  rw [h.kind, h.at, kA_toInt (k := 1) (by decide), kA_toInt (k := 2) (by decide), kA_toInt (k := 12) (by decide), kA_toInt (k := 13) (by decide), kA_toInt (k := 14) (by decide), kA_toInt (k := 38) (by decide), kA_toInt (k := 40) (by decide)]
  refine ⟨fun y => ?_, fun n1 => ⟨fun y => ?_, fun n2 => ⟨fun y => ?_, fun n3 => ⟨fun y => ?_, fun n4 => ⟨fun y => ?_, fun n5 => ⟨fun y => ?_, fun n6 => ⟨fun y => ?_, fun n7 => ?_⟩⟩⟩⟩⟩⟩⟩
  · refine yV rfl (x_nc hw hX h h0 y) fun σ1 ⟨C1, h1, g1⟩ w1 => ?_
    show (sW σ1 σ).2.2 = σ.2.2 ∧ _
    rw [w1]
    exact ⟨h.re h1, C1, h1, g1⟩
  · unfold pPl
    rw [if_neg n1, if_pos y, h.num y]
    refine ⟨by decide, yI rfl (x_add h) fun _ σ1 ⟨_, h1⟩ w1 => ?_⟩
    rw [w1]
    refine yV (h.re h1) (x_step h1 h0) fun σ2 h2 w2 => ?_
    show (sW σ2 σ).2.2 = σ.2.2 ∧ _
    rw [w2]
    exact ⟨h.re h2, _, h2, Go.one rfl rfl⟩
  · unfold pPl
    rw [if_neg n1, if_neg n2, if_pos y]
    refine ⟨by decide, yI rfl (x_add h) fun _ σ1 ⟨_, h1⟩ w1 => ?_⟩
    rw [w1]
    refine yV (h.re h1) (x_step h1 h0) fun σ2 h2 w2 => ?_
    show (sW σ2 σ).2.2 = σ.2.2 ∧ _
    rw [w2]
    exact ⟨h.re h2, _, h2, Go.one rfl rfl⟩
  · unfold pPl
    rw [if_neg n1, if_neg n2, if_neg n3, if_pos y]
    refine yV rfl (x_pr hw (Or.inl ⟨rfl, rfl, rfl, rfl⟩) hX0 h h0) fun σ1 ⟨C1, h1, g1⟩ w1 => ?_
    show (sW σ1 σ).2.2 = σ.2.2 ∧ _
    rw [w1]
    exact ⟨h.re h1, C1, h1, g1⟩
  · unfold pPl
    rw [if_neg n1, if_neg n2, if_neg n3, if_neg n4, if_pos y]
    refine yV rfl (x_pr hw (Or.inr ⟨rfl, rfl, rfl, rfl⟩) hX0 h h0) fun σ1 ⟨C1, h1, g1⟩ w1 => ?_
    show (sW σ1 σ).2.2 = σ.2.2 ∧ _
    rw [w1]
    exact ⟨h.re h1, C1, h1, g1⟩
  · unfold pPl
    rw [if_neg n1, if_neg n2, if_neg n3, if_neg n4, if_neg n5, if_pos y]
    refine yV rfl (x_step h h0) fun σ1 h1 w1 => ⟨by decide, ?_⟩
    rw [w1, h1.at]
    have hv : kA t n (s.1 + 1) = 1 → σ1.2.1 88 11 = wv t (aA t n (s.1 + 1)) (zA t n (s.1 + 1)) := h1.nm
    generalize σ1.2.1 88 11 = v at hv
    refine yI (h.re h1) (x_add h1) fun _ σ2 ⟨_, h2⟩ w2 => ?_
    rw [w2]
    refine yV (h.re h2) (x_exp h2) fun σ3 h3 w3 => ?_
    show (sW σ3 σ).2.2 = σ.2.2 ∧ _
    rw [w3]
    refine ⟨h.re h3, _, h3, cdA_len.1, fun z hr => ?_⟩
    obtain ⟨-, k2, -⟩ := eK_inv z
    have hr' : C.length + 1 ≤ 3000 := hr
    rw [cdA_go (by omega), hv k2]
    rfl
  · unfold pPl
    rw [if_neg n1, if_neg n2, if_neg n3, if_neg n4, if_neg n5, if_neg n6, if_pos y]
    refine yV rfl (x_step h h0) fun σ1 h1 w1 => ?_
    rw [w1]
    refine yV (h.re h1) (hX2 _ _ _ h1) fun σ2 ⟨C2, h2, g2⟩ w2 => ?_
    rw [w2]
    refine yV (h.re h2) (x_exp h2) fun σ3 h3 w3 => ?_
    show (sW σ3 σ).2.2 = σ.2.2 ∧ _
    rw [w3]
    exact ⟨h.re h3, C2, h3, g2.1, fun z hr => g2.2 (eK_inv z).1 hr⟩
  · unfold pPl
    rw [if_neg n1, if_neg n2, if_neg n3, if_neg n4, if_neg n5, if_neg n6, if_neg n7]
    refine yV rfl (x_fail h h0) fun σ1 h1 w1 => ?_
    show (sW σ1 σ).2.2 = σ.2.2 ∧ _
    rw [w1]
    exact ⟨h.re h1, C, h1, Nat.le_refl _, fun z _ => by cases z⟩
theorem nI_odd : (List.range 402).all (fun m => decide ((nI m &&& (1 : Int32)) = (1 : Int32) ↔ m % 2 = 1)) = true := by decide +kernel
/-- the signs before an ATOM -/
theorem w_ng {a0 : Nat} {Q : Option Value → fkS → Prop} : ∀ (f i m : Nat) (σ : fkS), f + (m + a0) = 400 → PC t n σ0 (ca t n (i, none, a0 + m)) C σ →
    (∀ σ', PC t n σ0 ((pNg t n f i m).1, (pNg t n f i m).2.1, a0 + (pNg t n f i m).2.2 + 1) C σ' → Wq 197 (d + 2) 43 [some (.ref 88), some (.int o), some (.int (nI (pNg t n f i m).2.2)), none] [] σ' Q) → Wq 197 (d + 2) 6 [some (.ref 88), some (.int o), some (.int (nI m)), none] [] σ Q := by
  intro f
  induction f with
  | zero =>
    intro i m σ hf h hQ
    have e : ca t n (i, none, a0 + m) = (i, some (aA t n i), a0 + m + 1) := by
      unfold ca
      rw [if_neg (by show ¬ a0 + m < 400; omega)]
    rw [e] at h
    refine S_Parser_atom_6 (d := d + 1) (yI rfl (x_fine h) fun x σ1 ⟨e1, hx⟩ w1 => ?_)
    subst e1
    rw [w1]
    exact ⟨fun _ => hQ σ1 h, fun y => absurd hx y⟩
  | succ f ih =>
    intro i m σ hf h hQ
    have e : ca t n (i, none, a0 + m) = (i, none, a0 + m + 1) := by
      unfold ca
      rw [if_pos (by show a0 + m < 400; omega)]
    rw [e] at h
    rw [pNg] at hQ
    refine S_Parser_atom_6 (d := d + 1) (yI rfl (x_fine h) fun x σ1 ⟨e1, hx⟩ w1 => ?_)
    subst e1
    have hx1 : x = 1 := hx
    subst hx1
    rw [w1, h.kind]
    refine ⟨fun y => absurd y (by decide), fun _ => ⟨fun y => ?_, fun y => ⟨fun y2 => ?_, fun _ => ?_⟩⟩⟩
    · rw [if_neg (show ¬ kA t n i = 45 from y)] at hQ
      exact hQ σ1 h
    · exact absurd y2 (nI_ge (a := m) (b := 400) (by omega) (by decide))
    · rw [if_pos (show kA t n i = 45 from y)] at hQ
      refine yV rfl (x_step h rfl) fun σ2 h2 w2 => ?_
      rw [w2]
      refine yV (h.re h2) (x_count h2 rfl) fun σ3 h3 w3 => ?_
      rw [w3, (nI_succ m).symm]
      refine ih (i + 1) (m + 1) σ3 (by omega) ?_ hQ
      have e4 : ca t n (i + 1, none, a0 + (m + 1)) = ca t n (nxt (i, none, a0 + m + 1)) := rfl
      rw [e4]
      exact h3
theorem x_at (hw : ∀ s, (E s).1.2.1 = none → s.2.1 = none) (hX : XE t n σ0 (d + 1) 188 [.ref 88, .int (o + 1)] E) (hX2 : XE t n σ0 (d + 2) 188 [.ref 88, .int (o + 1)] E) (hX0 : XE t n σ0 d 188 [.ref 88, .int (o + 1)] E) (h : PC t n σ0 s C σ) (h0 : s.2.1 = none) : Dv (d + 4) 197 [.ref 88, .int o] σ (fun σ' => ∃ C', PC t n σ0 (pAt t n E s).1 C' σ' ∧ Go t (pAt t n E s).2 (pAt t n E s).1 C C') := by
  have h4 := h.2.2.2.2.2.2 h0
  have hm := pNg_le (t := t) (n := n) (400 - s.2.2) s.1 0
  refine S_Parser_atom (d := d + 3) (yV rfl (x_count h h0) fun σ1 h1 w1 => ?_)
  rw [w1]
  have es : ca t n s = ca t n (s.1, none, s.2.2 + 0) := rfl
  rw [es] at h1
  unfold pAt
  refine w_ng (d := d + 2) (400 - s.2.2) s.1 0 σ1 (by omega) h1 fun σ2 h2 => ?_
  generalize pNg t n (400 - s.2.2) s.1 0 = r at h2 hm ⊢
  simp only
  refine S_Parser_atom_43 (d := d + 3) h2.r0 (yI rfl (x_fine h2) fun x σ3 ⟨e3, hx⟩ w3 => ?_)
  subst e3
  rw [w3]
  by_cases c : r.2.1 = none
  · rw [if_pos c]
    have hx1 : x = 1 := by rw [hx, if_pos c]
    subst hx1
    refine ⟨fun _ => ?_, fun y => absurd y (by decide)⟩
    rw [h2.at]
    refine yV rfl (x_pl hw hX hX2 hX0 h2 c) fun σ4 ⟨C1, h4, g1⟩ w4 => ?_
    generalize pPl t n E (r.1, r.2.1, s.2.2 + r.2.2 + 1) = q at h4 g1 ⊢
    rw [w4]
    have hodd := of_decide_eq_true (List.all_eq_true.mp nI_odd r.2.2 (List.mem_range.mpr (by omega)))
    refine ⟨fun y => ?_, fun y => ⟨by decide, ?_⟩⟩
    · have c0 : r.2.2 = 0 := by
        rcases Nat.eq_zero_or_pos r.2.2 with c0 | c0
        · exact c0
        · exact absurd y (nI_nle c0 (by omega))
      rw [if_pos c0]
      refine S_Parser_atom_78 (d := d + 3) h4.r0 ⟨fun _ => ⟨h.re h4, C1, h4, g1⟩, fun y2 => ?_⟩
      have := hodd.mp y2
      omega
    · have c0 : ¬ r.2.2 = 0 := fun c0 => y (by rw [c0]; decide)
      rw [if_neg c0]
      refine yI (h2.re h4) (x_add h4) fun _ σ5 ⟨_, h5⟩ w5 => ?_
      rw [w5]
      have j1 := (cdA_len (C := C1) (e := (14, 1, nI (aA t n r.1), 0))).1
      have q1 := g1.1
      generalize eC2 : cdA C1 (14, 1, nI (aA t n r.1), 0) = C2 at h5 j1
      refine S_Parser_atom_78 (d := d + 3) h5.r0 ⟨fun y2 => ?_, fun y2 => ⟨by decide, ?_⟩⟩
      · refine ⟨h.re h5, C2, h5, by omega, fun z hr => ?_⟩
        rw [ln_1] at hr
        have hm2 : r.2.2 % 2 = 0 := by
          have : ¬ r.2.2 % 2 = 1 := fun y => y2 (hodd.mpr y)
          omega
        have e1 := g1.2 z (by omega)
        have l1 := g1.len z (by omega)
        rw [cdA_go (by omega)] at eC2
        rw [cr_1, if_neg (by omega), ← eC2, e1]
        simp only [List.append_assoc]
      · refine yI rfl (x_add h5) fun _ σ6 ⟨_, h6⟩ w6 => ?_
        show (sW σ6 σ5).2.2 = σ.2.2 ∧ _
        rw [w6]
        have j2 := (cdA_len (C := C2) (e := (7, 0, 0, 0))).1
        refine ⟨h.re h6, _, h6, by omega, fun z hr => ?_⟩
        rw [ln_1] at hr
        have hm2 := hodd.mp y2
        have e1 := g1.2 z (by omega)
        have l1 := g1.len z (by omega)
        rw [cdA_go (by omega)] at eC2
        have l2 : C2.length = C1.length + 1 := by rw [← eC2, List.length_append]; rfl
        rw [cdA_go (by omega), cr_1, if_pos hm2, ← eC2, e1]
        simp only [List.append_assoc, List.cons_append, List.nil_append]
  · rw [if_neg c]
    have hx0 : x = 0 := by rw [hx, if_neg c]
    subst hx0
    refine ⟨fun y => absurd rfl y, fun _ => ?_⟩
    exact ⟨h.re h2, C, h2, Nat.le_refl _, fun z _ => absurd z c⟩
end XR
