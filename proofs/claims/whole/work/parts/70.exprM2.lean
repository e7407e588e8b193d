/-! CODES: an EXPRESSION; the reference -/
section EXM
variable {t : Nat → UInt8} {b n e d : Nat}
def RCx (t : Nat → UInt8) (C : List In) (b p : Nat) (σ : fkS) : Prop := posI t C p ∧ RCd C b σ ∧ RCo C b σ ∧ RCp C σ
theorem sk_lenle (C : List In) (m : Nat) : (sk C m).length ≤ m := by
  have key : ∀ (m : Nat) (s : List (Nat × Nat)), skO m s → s.length ≤ m := by
    intro m s
    induction s generalizing m with
    | nil => intro _; exact Nat.zero_le _
    | cons a r ih =>
      obtain ⟨o, x⟩ := a
      intro hh
      have := ih o hh.2.2
      have h1 := hh.1
      have h2 := hh.2.1
      simp only [List.length_cons]
      omega
  exact key _ _ (sk_O C m)
/-- the tables behind an INSTRUCTION that opens and ends nothing -/
theorem RCx.plain {C : List In} {i : In} {p q : Nat} {σ σ' : fkS} (h : RCx t C b p σ) (hi : pI t e C p = .inl (i, q)) (hop : ¬ (2 ≤ iOp i ∧ iOp i ≤ 5) ∧ iOp i ≠ 11) (f : Fr fM σ σ') : RCx t (C ++ [i]) b q σ' := by
  obtain ⟨h1, h2, h3, h4⟩ := h
  have hs : sk (C ++ [i]) (C ++ [i]).length = sk C C.length := by
    rw [sk_snoc]
    unfold skS
    rw [if_neg (by omega), if_neg (by omega), if_neg (by omega)]
  refine ⟨h1.snoc hi, h2.snoc h1 (fun k j o x r _ _ _ => ⟨(f 138 _ rfl).1, (f 137 _ rfl).1⟩) (fun ho => absurd ho hop.2), fun o x hx => ?_, fun k a ha => ?_⟩
  · rw [hs] at hx
    have := skO_lt (sk_O C C.length) hx
    rw [posOf_app (by omega), eV_app (by omega), (f 137 _ rfl).1]
    exact h3 o x hx
  · rw [hs] at ha
    have := skO_lt (sk_O C C.length) (List.mem_reverse.mp (List.mem_of_getElem? ha))
    rw [posOf_app (by omega), (f 139 _ rfl).1]
    exact h4 k a ha
theorem w_ex2 {Q : Option Value → fkS → Prop} {σ0 : fkS} {R : Rr (List In)} (kok : ∀ C q σ', R = .inl (C, q) → Fr (sXE b) σ0 σ' → RCx t C b q σ' → RM t b n e q σ' → σ'.1 103 42 = 0 → sk C C.length = [] → Q none σ')
    (kft : ∀ w pl σ', R = .inr (w, pl) → Fr (sXE b) σ0 σ' → ZM t b n e w pl σ' → Q none σ') :
    ∀ (f k p : Nat) (C : List In) (σ : fkS), k + f = 4000 → k + 8 ≤ p → pBo t e f C p = R → Fr (sXE b) σ0 σ → RM t b n e p σ → σ.1 103 42 = 0 → RCx t C b p σ → (sk C C.length).length ≤ 20 → Wq 262 (d + 5) 2 [some (.ref 103), some (.int (nI (sk C C.length).length)), none, none, none] [] σ Q
  | 0, k, p, C, σ, hk, hp, hR, f0, h, hf, hC, h20 => by
    have := h.2.2.2.2.2.2.2
    omega
  | f + 1, k, p, C, σ, hk, hp, hR, f0, h, hf, hC, h20 => by
    have h7 := h.2.2.2.2.2.2.2
    have hb := h.1
    have hp1 : σ.1 103 40 = nI p := h.2.2.2.2.2.2.1
    rw [pBo] at hR
    have hO := sk_O C C.length
    -- behind a fault
    have z2 : ∀ (w pl : Int32) (σ1 : fkS) (x : Int32), R = .inr (w, pl) → Fr (sXE b) σ0 σ1 → ZM t b n e w pl σ1 → Wq 262 (d + 5) 2 [some (.ref 103), some (.int x), none, none, none] [] σ1 Q := by
      intro w pl σ1 x hr f1 hZ
      exact S_M_expression_2 ⟨fun _ => kft w pl σ1 hr f1 hZ, fun z => absurd z hZ.nz⟩
    refine S_M_expression_2 ⟨fun z => absurd hf z, fun _ => ?_⟩
    rw [hp1]
    refine qI h hf (mN h hf) (fun op q r hN hv hR1 hf1 => ?_) fun w pl r σ1 hN hr0 hZ f1 => ?_
    · subst hv
      obtain ⟨-, hopb, hq, hpe⟩ := nN_l hN
      have ho : op < 256 := by have := (t p).toNat_lt; omega
      have hp4 : p < 4000 := by have := h.2.2.2.1; have := h.2.2.2.2.1; omega
      have hq2 : ∀ {b : Nat} {x : Int32}, b < 256 → x = nI b → (nI op = x ↔ op = b) := fun hb hx => op_nat ho hb hx
      have hpI : pI t e C p = pI2 t e C p op q := by unfold pI; rw [hN]; rfl
      rw [hpI] at hR
      refine ⟨fun _ => ?_, fun z => absurd hf1 z⟩
      rw [hR1.2.1]
      -- go on behind an INSTRUCTION
      have next : ∀ (i : In) (q2 : Nat) (σ2 : fkS), pI t e C p = .inl (i, q2) → ¬ (iOp i = 11 ∧ (sk C C.length).isEmpty = true) → Fr (sXE b) σ0 σ2 → RM t b n e q2 σ2 → σ2.1 103 42 = 0 → RCx t (C ++ [i]) b q2 σ2 → Wq 262 (d + 5) 2 [some (.ref 103), some (.int (nI (sk (C ++ [i]) (C ++ [i]).length).length)), none, none, none] [] σ2 Q := by
        intro i q2 σ2 hi hn f2 hR2 hf2 hC2
        rw [hpI] at hi
        have hl := pI_l (hpI.trans hi)
        rw [hi] at hR
        simp only [bR] at hR
        rw [if_neg hn] at hR
        have := w_ex2 kok kft f (k + 1) q2 (C ++ [i]) σ2 (by omega) (by omega) hR f2 hR2 hf2 hC2 (by rw [sk_snoc]; exact skS_len h20 hl.2.2.2.2.1)
        exact this
      have hxz : ∀ j, j < 4000 → ((4000 : Int32) * nI b) + nI j = nI (4000 * b + j) := fun j _ => by rw [show (4000 : Int32) = nI 4000 from rfl, nI_mul, nI_add]
      have plainop : ¬ (2 ≤ op ∧ op ≤ 5) → op ≠ 11 → Cv (d + 4) 263 [.ref 103, .int (nI op), .int (nI p)] (okM σ q) (fun σ3 => Wq 262 (d + 5) 2 [some (.ref 103), some (.int (nI (sk C C.length).length)), none, none, none] [] σ3 Q) := by
        intro n25 n11
        have hp2 : pI2 t e C p op q = bR (pOs t e p op q) fun o q2 => .inl (mkI p op o, q2) := by
          unfold pI2
          rw [if_neg n11, if_neg (by omega), if_neg (by omega)]
        refine qY (m_operands (d := d) (p := p) hR1 hf1 ho) (fun o q2 σ2 hO2 f2 _ hR2 hf2 => ?_) fun w pl σ2 hO2 f2 hZ => ?_
        · have hi : pI t e C p = .inl (mkI p op o, q2) := by rw [hpI, hp2, hO2]; rfl
          have hnx := next (mkI p op o) q2 σ2 hi (fun z => n11 z.1) ((f0.tr okM_fr.fXE).tr f2.fXE) hR2 hf2 (hC.plain hi ⟨n25, n11⟩ (okM_fr.tr f2))
          have hs : sk (C ++ [mkI p op o]) (C ++ [mkI p op o]).length = sk C C.length := by
            rw [sk_snoc]
            unfold skS
            rw [mkI_of, if_neg n11, if_neg (by omega), if_neg (by omega)]
          rw [hs] at hnx
          exact hnx
        · refine z2 w pl σ2 _ ?_ ((f0.tr okM_fr.fXE).tr f2.fXE) hZ
          rw [← hR, hp2, hO2]
          rfl
      refine ⟨fun z11 => ⟨fun z5 => ⟨fun z => plainop ?_ ?_, fun z => ⟨fun z3 => plainop ?_ ?_, fun z3 => ?_⟩⟩, fun z5 => ?_⟩, fun z11 => ?_⟩
      · have := (nI_ltI (b := 2) (by omega) (by decide)).mp z
        omega
      · exact fun y => z11 (by rw [y]; rfl)
      · have := (nI_ltI (a := 4) (by decide) (by omega)).mp z3
        have n5 : op ≠ 5 := fun y => z5 (by rw [y]; rfl)
        omega
      · exact fun y => z11 (by rw [y]; rfl)
      · -- block, loop, if
        have r2 : 2 ≤ op := Nat.not_lt.mp fun y => z ((nI_ltI (b := 2) (by omega) (by decide)).mpr y)
        have r4 : op ≤ 4 := Nat.not_lt.mp fun y => z3 ((nI_ltI (a := 4) (by decide) (by omega)).mpr y)
        have hp2 : pI2 t e C p op q = if 20 ≤ (sk C C.length).length then .inr (-2, nI p) else bR (pBt t e q) fun bt q2 => .inl (mkI p op (lN bt, 0, []), q2) := by
          unfold pI2
          rw [if_neg (by omega), if_neg (by omega), if_pos ⟨r2, r4⟩]
        refine ⟨fun z20 => ?_, fun z20 => ?_⟩
        · have h20' : (sk C C.length).length < 20 := by
            have h1 : (sk C C.length).length ≠ 20 := fun y => z20 (by rw [y]; rfl)
            omega
          rw [if_neg (by omega)] at hp2
          rw [hxz p (by omega), nI_clamp (by omega), nI_clamp (by omega)]
          refine ⟨vp_in_nI (by omega) (by decide), vp_in_nI (by omega) (by decide), ?_⟩
          rw [hR1.2.2.2.2.2.1, hR1.2.2.2.2.2.2.1]
          have g1 : RM t b n e q (sI (sI (okM σ q) 139 (sk C C.length).length (nI p)) 137 (4000 * b + p) (-1)) := (hR1.sI (ew rfl)).sI (ew rfl)
          have g2 : (sI (sI (okM σ q) 139 (sk C C.length).length (nI p)) 137 (4000 * b + p) (-1)).1 103 42 = 0 := g0_sI (g0_sI hf1 rfl) rfl
          have g3 : Fr (sXE b) σ0 (sI (sI (okM σ q) 139 (sk C C.length).length (nI p)) 137 (4000 * b + p) (-1)) := ((f0.tr okM_fr.fXE).sI sXE9).sI (sXE7 (by omega))
          -- the tables
          have g4 : ∀ (bt q2 : Nat), pI t e C p = .inl (mkI p op (lN bt, 0, []), q2) → RCx t (C ++ [mkI p op (lN bt, 0, [])]) b q2 (sI (sI (okM σ q) 139 (sk C C.length).length (nI p)) 137 (4000 * b + p) (-1)) := by
            intro bt q2 hi
            obtain ⟨c1, c2, c3, c4⟩ := hC
            have hs : sk (C ++ [mkI p op (lN bt, 0, [])]) (C ++ [mkI p op (lN bt, 0, [])]).length = (C.length, C.length) :: sk C C.length := by
              rw [sk_snoc]
              unfold skS
              rw [mkI_of, if_neg (by omega), if_neg (by omega), if_pos ⟨r2, r4⟩]
            have m137 : ∀ a, a < C.length → (sI (sI (okM σ q) 139 (sk C C.length).length (nI p)) 137 (4000 * b + p) (-1)).1 137 (4000 * b + posOf C a) = σ.1 137 (4000 * b + posOf C a) := by
              intro a ha
              have := c1.lt ha
              rw [sI_so (by omega), sI_o (by decide)]
              rfl
            refine ⟨c1.snoc hi, c2.snoc c1 (fun k j o x r hj hop hs2 => ⟨rfl, m137 o ?_⟩) (fun ho => absurd ho (by rw [mkI_of]; omega)), fun o x hx => ?_, fun k a ha => ?_⟩
            · have h1 := sk_O C k
              rw [hs2] at h1
              have := h1.1
              have := h1.2.1
              have := (List.getElem?_eq_some_iff.mp hj).1
              omega
            · rw [hs] at hx
              rcases List.mem_cons.mp hx with he | hx
              · cases he
                rw [posOf_len]
                unfold eV
                rw [if_pos rfl]
                exact sI_ss
              · have := skO_lt hO hx
                rw [posOf_app (by omega), eV_app (by omega), m137 o (by omega)]
                exact c3 o x hx
            · rw [hs, List.reverse_cons] at ha
              rw [sI_o (by decide), sI3]
              rcases get_snoc ha with ⟨ha, hlt⟩ | ⟨rfl, rfl⟩
              · rw [List.length_reverse] at hlt
                have := skO_lt hO (List.mem_reverse.mp (List.mem_of_getElem? ha))
                rw [if_neg (by omega), posOf_app (by omega)]
                exact c4 k a ha
              · rw [List.length_reverse, if_pos rfl, posOf_len]
                rfl
          have e1 : nI (sk C C.length).length + (1 : Int32) = nI ((sk C C.length).length + 1) := nI_1 _
          rw [e1]
          generalize hτ : sI (sI (okM σ q) 139 (sk C C.length).length (nI p)) 137 (4000 * b + p) (-1) = τ at g1 g2 g3 g4 ⊢
          clear hτ
          have hs : ∀ bt, (sk (C ++ [mkI p op (lN bt, 0, [])]) (C ++ [mkI p op (lN bt, 0, [])]).length).length = (sk C C.length).length + 1 := by
            intro bt
            rw [sk_snoc]
            unfold skS
            rw [mkI_of, if_neg (by omega), if_neg (by omega), if_pos ⟨r2, r4⟩]
            rfl
          have goT : pBt t e q = nT t e q → Wq 262 (d + 5) 249 [some (.ref 103), some (.int (nI ((sk C C.length).length + 1))), none, none, none] [] τ Q := by
            intro hbt
            rw [hbt] at hp2
            refine S_M_expression_249 ⟨fun y => ?_, fun y => ?_⟩
            · refine qI g1 g2 (mT g1 g2) (fun bt q2 r hT hv hR2 hf2 => ?_) fun w pl r σ2 hT _ hZ f2 => ?_
              · have hi : pI t e C p = .inl (mkI p op (lN bt, 0, []), q2) := by rw [hpI, hp2, hT]; rfl
                have g5 := g4 bt q2 hi
                have hnx := next _ q2 (okM τ q2) hi (fun z => by have := z.1; rw [mkI_of] at this; omega) (g3.tr okM_fr.fXE) hR2 hf2 ?_
                · rw [hs] at hnx
                  exact hnx
                · obtain ⟨c1, c2, c3, c4⟩ := g5
                  exact ⟨c1, fun k i o x r a1 a2 a3 => c2 k i o x r a1 a2 a3, fun o x hx => c3 o x hx, fun k a ha => c4 k a ha⟩
              · refine z2 w pl σ2 _ ?_ (g3.tr f2.fXE) hZ
                rw [← hR, hp2, hT]
                rfl
            · rw [g1.2.2.2.2.2.1, g1.2.2.2.2.2.2.1] at y
              have hz : ¬ q < e := fun w => y (nI_lt w (by have := h.2.2.2.1; have := h.2.2.2.2.1; omega))
              rw [g1.2.2.2.2.2.1]
              refine qFails g1 g2 (by decide) fun σ2 hZ f2 => ?_
              refine z2 _ _ σ2 _ ?_ (g3.tr f2.fXE) hZ
              rw [← hR, hp2]
              unfold nT nN
              rw [if_neg hz]
              rfl
          have h4 := h.2.2.2.1
          have h5 := h.2.2.2.2.1
          refine ⟨fun y => goT ?_, fun y => ?_⟩
          · unfold pBt
            rw [if_neg]
            intro w
            exact nI_ge w.1 (by omega) y
          · have hz : q < e := Nat.not_le.mp fun w => y (nI_le w (by omega))
            refine (c_here (d := d + 4) g1 hz).mono fun x σ2 hx => ?_
            obtain ⟨r, rfl, rfl, rfl⟩ := Qi_s hx
            show (_ → _) ∧ (_ → _)
            refine ⟨fun w => goT ?_, fun w => ?_⟩
            · unfold pBt
              rw [if_neg]
              intro w2
              exact w (by show nI (t q).toNat = 64; rw [w2.2]; rfl)
            · have hb64 : (t q).toNat = 64 := (nI_eq (b := 64) (by have := (t q).toNat_lt; omega) (by decide)).mp w
              have hpb : pBt t e q = .inl (0, q + 1) := by
                unfold pBt
                rw [if_pos ⟨hz, hb64⟩]
              rw [hpb] at hp2
              have hi : pI t e C p = .inl (mkI p op (lN 0, 0, []), q + 1) := by rw [hpI, hp2]; rfl
              have g5 := g4 0 (q + 1) hi
              rw [g1.2.2.2.2.2.2.1, show nI q + (1 : Int32) = nI (q + 1) from nI_1 _]
              have hnx := next _ (q + 1) (okM σ2 (q + 1)) hi (fun z => by have := z.1; rw [mkI_of] at this; omega) (g3.tr okM_fr.fXE) (g1.at (by omega)) ((okM_f _ _).trans g2) ?_
              · rw [hs] at hnx
                exact hnx
              · obtain ⟨c1, c2, c3, c4⟩ := g5
                exact ⟨c1, fun k i o x r a1 a2 a3 => c2 k i o x r a1 a2 a3, fun o x hx => c3 o x hx, fun k a ha => c4 k a ha⟩
        · have h20' : (sk C C.length).length = 20 := (nI_eq (b := 20) (by omega) (by decide)).mp z20
          rw [if_pos (by omega)] at hp2
          refine qFails hR1 hf1 (by decide) fun σ2 hZ f2 => ?_
          refine kft _ _ σ2 ?_ ((f0.tr okM_fr.fXE).tr f2.fXE) hZ
          rw [← hR, hp2]
          rfl
      · -- 5
        have e5 : op = 5 := (hq2 (by decide) rfl).mp z5
        subst e5
        have bad : pI2 t e C p 5 q = .inr (-1, nI p) → Cv (d + 4) 244 [.ref 103, .int (-1 : Int32), .int (nI p)] (okM σ q) (fun σ8 => Wq 262 (d + 5) 2 [some (.ref 103), some (.int (nI (sk C C.length).length)), none, none, none] [] σ8 Q) := by
          intro hp2
          refine qFails hR1 hf1 (by decide) fun σ2 hZ f2 => ?_
          refine z2 _ _ σ2 _ ?_ ((f0.tr okM_fr.fXE).tr f2.fXE) hZ
          rw [← hR, hp2]
          rfl
        cases hs : sk C C.length with
        | nil =>
          refine ⟨fun _ => ?_, fun z => absurd rfl z⟩
          have := bad (by unfold pI2; rw [if_neg (by decide), if_pos rfl, hs])
          rw [hs] at this
          exact this
        | cons a r =>
          obtain ⟨o, x⟩ := a
          rw [hs] at h20 hO
          have hr : r.length < 20 := by simp at h20; omega
          have ho1 := hO.1
          have ho2 := hO.2.1
          obtain ⟨⟨jo, hjo, hjo2⟩, hkx⟩ := sk_kind (C := C) (n := C.length) (Nat.le_refl _) (o := o) (x := x) (by rw [hs]; exact List.mem_cons_self)
          obtain ⟨c1, c2, c3, c4⟩ := hC
          have h139 : σ.1 139 r.length = nI (posOf C o) := by
            refine c4 r.length (o, x) ?_
            rw [hs, List.reverse_cons, List.getElem?_append_right (by simp), List.length_reverse, Nat.sub_self]
            rfl
          have hpo : posOf C o < p := c1.lt (by omega)
          have h137 : σ.1 137 (4000 * b + posOf C o) = eV C o x := c3 o x (by rw [hs]; exact List.mem_cons_self)
          have e1 : nI (r.length + 1) - (1 : Int32) = nI r.length := nI_pred _
          have hlen : ((o, x) :: r).length = r.length + 1 := rfl
          rw [hs] at bad
          rw [hlen] at bad ⊢
          refine ⟨fun z => absurd z (nI_ne0 (by omega) (by omega)), fun _ => ?_⟩
          rw [e1, nI_clamp (by omega)]
          have h139b : (okM σ q).1 139 r.length = nI (posOf C o) := h139
          rw [h139b, hxz _ (by omega), nI_clamp (by omega)]
          have h105 : (okM σ q).1 105 (4000 * b + posOf C o) = nI (iOp jo) := by
            have h3 := h.2.2.2.1
            have h4 := h.2.2.2.2.1
            have := hR1.2.2.1 (posOf C o) (by omega)
            rw [this]
            show nI (t (posOf C o)).toNat = _
            rw [posOf_get hjo, (c1.1 o jo hjo).2]
          have h137b : (okM σ q).1 137 (4000 * b + posOf C o) = eV C o x := h137
          rw [h105, h137b]
          have hin1 : vp_in (nI r.length) 21 := vp_in_nI (by omega) (by decide)
          have hin2 : vp_in (nI (4000 * b + posOf C o)) 8000 := vp_in_nI (by omega) (by decide)
          have hpx : pI2 t e C p 5 q = if C[x]?.map iOp = some 4 then .inl (mkI p 5 (0, 0, []), q) else .inr (-1, nI p) := by
            unfold pI2
            rw [if_neg (by decide), if_pos rfl, hs]
          refine ⟨hin1, hin2, fun z4 => bad ?_, fun z4 => ⟨hin1, hin2, fun zn => ⟨hin1, hin2, ?_⟩, fun zn => bad ?_⟩⟩
          · have n4 : iOp jo ≠ 4 := fun y => z4 (by rw [y]; rfl)
            rw [hpx, if_neg]
            rcases hkx with rfl | ⟨jx, hjx, hjx5⟩
            · rw [hjo]
              intro w
              exact n4 (Option.some.inj w)
            · rw [hjx]
              intro w
              have : iOp jx = 4 := Option.some.inj w
              omega
          · have e4 : iOp jo = 4 := (nI_eq (b := 4) (by omega) (by decide)).mp z4
            have hxo : x = o := by
              refine Decidable.byContradiction fun hne => ?_
              unfold eV at zn
              rw [if_neg hne] at zn
              have := c1.lt (a := x) (by omega)
              exact nI_pos (by omega) zn
            subst hxo
            rw [hjo] at hpx
            rw [if_pos (by simp [e4])] at hpx
            have hi : pI t e C p = .inl (mkI p 5 (0, 0, []), q) := by rw [hpI, hpx]
            have hs2 : sk (C ++ [mkI p 5 (0, 0, [])]) (C ++ [mkI p 5 (0, 0, [])]).length = (x, C.length) :: r := by
              rw [sk_snoc, hs]
              rfl
            have hnx := next _ q (sI (okM σ q) 137 (4000 * b + posOf C x) (nI p)) hi (fun z => by have := z.1; cases this) ((f0.tr okM_fr.fXE).sI (sXE7 (by omega))) (hR1.sI (ew rfl)) (g0_sI hf1 rfl) ?_
            · rw [hs2] at hnx
              exact hnx
            · have m137 : ∀ a, a < C.length → a ≠ x → (sI (okM σ q) 137 (4000 * b + posOf C x) (nI p)).1 137 (4000 * b + posOf C a) = σ.1 137 (4000 * b + posOf C a) := by
                intro a ha hne
                have := c1.ne ha ho2 hne
                rw [sI_so (by omega)]
                rfl
              refine ⟨c1.snoc hi, c2.snoc c1 (fun k j o2 x2 r2 hj hop hs3 => ⟨rfl, m137 o2 ?_ ?_⟩) (fun ho => by cases ho), fun o2 x2 hx2 => ?_, fun k a ha => ?_⟩
              · have h1 := sk_O C k
                rw [hs3] at h1
                have := h1.1
                have := h1.2.1
                have := (List.getElem?_eq_some_iff.mp hj).1
                omega
              · exact fun y => sk_goneO hj hop hs3 (List.getElem?_eq_some_iff.mp hj).1 (o2 := x) (x2 := x) (by rw [hs]; exact List.mem_cons_self) y.symm
              · rw [hs2] at hx2
                rcases List.mem_cons.mp hx2 with he | hx2
                · cases he
                  rw [posOf_app ho2, sI_ss]
                  unfold eV
                  rw [if_neg (by omega), posOf_len]
                  rfl
                · have := skO_lt hO.2.2 hx2
                  rw [posOf_app (by omega), eV_app (by omega), m137 o2 (by omega) (by omega)]
                  exact c3 o2 x2 (by rw [hs]; exact List.mem_cons_of_mem _ hx2)
              · rw [hs2, List.reverse_cons] at ha
                rw [sI_o (by decide)]
                rcases get_snoc ha with ⟨ha, hlt⟩ | ⟨rfl, rfl⟩
                · have := skO_lt hO.2.2 (List.mem_reverse.mp (List.mem_of_getElem? ha))
                  rw [posOf_app (by omega)]
                  refine c4 k a ?_
                  rw [hs, List.reverse_cons, List.getElem?_append_left hlt]
                  exact ha
                · rw [List.length_reverse, posOf_app ho2]
                  exact h139
          · rw [hpx, if_neg]
            rcases hkx with rfl | ⟨jx, hjx, hjx5⟩
            · unfold eV at zn
              rw [if_pos rfl] at zn
              exact absurd (by decide) zn
            · rw [hjx]
              intro w
              have : iOp jx = 4 := Option.some.inj w
              omega
      · -- 11
        have e11 : op = 11 := (hq2 (by decide) rfl).mp z11
        subst e11
        have hi : pI t e C p = .inl (mkI p 11 (0, 0, []), q) := by rw [hpI]; unfold pI2; rw [if_pos rfl]
        obtain ⟨c1, c2, c3, c4⟩ := id hC
        cases hs : sk C C.length with
        | nil =>
          refine ⟨fun z => absurd rfl z, fun _ => ?_⟩
          have hs2 : sk (C ++ [mkI p 11 (0, 0, [])]) (C ++ [mkI p 11 (0, 0, [])]).length = [] := by
            rw [sk_snoc, hs]
            rfl
          have k3 : RCo (C ++ [mkI p 11 (0, 0, [])]) b (okM σ q) := fun o x hx => by rw [hs2] at hx; cases hx
          have k4 : RCp (C ++ [mkI p 11 (0, 0, [])]) (okM σ q) := fun k a ha => by rw [hs2] at ha; cases ha
          refine kok (C ++ [mkI p 11 (0, 0, [])]) q (okM σ q) ?_ (f0.tr okM_fr.fXE) ⟨c1.snoc hi, c2.snoc c1 (fun k j o x r _ _ _ => ⟨rfl, rfl⟩) (fun _ o x r h2 => by rw [hs] at h2; cases h2), k3, k4⟩ hR1 hf1 hs2
          rw [← hR, ← hpI, hi]
          show (if _ ∧ _ then _ else _) = _
          rw [if_pos ⟨rfl, by rw [hs]; rfl⟩]
        | cons a r =>
          obtain ⟨o, x⟩ := a
          rw [hs] at h20 hO
          have hr : r.length < 20 := by simp at h20; omega
          have ho1 := hO.1
          have ho2 := hO.2.1
          have h139 : (okM σ q).1 139 r.length = nI (posOf C o) := by
            refine c4 r.length (o, x) ?_
            rw [hs, List.reverse_cons, List.getElem?_append_right (by simp), List.length_reverse, Nat.sub_self]
            rfl
          have hpo : posOf C o < p := c1.lt (by omega)
          have e1 : nI (r.length + 1) + (-1 : Int32) = nI r.length := by
            have : nI (r.length + 1) + (-1 : Int32) = nI (r.length + 1) - 1 := by rw [Int32.sub_eq_add_neg]
            rw [this]
            exact nI_pred _
          have hlen : ((o, x) :: r).length = r.length + 1 := rfl
          rw [hlen]
          refine ⟨fun _ => ?_, fun z => absurd z (nI_ne0 (by omega) (by omega))⟩
          rw [e1, nI_clamp (by omega), h139, hxz _ (by omega), nI_clamp (by omega)]
          refine ⟨vp_in_nI (by omega) (by decide), vp_in_nI (by omega) (by decide), ?_⟩
          have hs2 : sk (C ++ [mkI p 11 (0, 0, [])]) (C ++ [mkI p 11 (0, 0, [])]).length = r := by
            rw [sk_snoc, hs]
            rfl
          have hnx := next _ q (sI (okM σ q) 138 (4000 * b + posOf C o) (nI p)) hi (fun z => by have := z.2; rw [hs] at this; cases this) ((f0.tr okM_fr.fXE).sI (sXE8 (by omega))) (hR1.sI (ew rfl)) (g0_sI hf1 rfl) ?_
          · rw [hs2] at hnx
            exact hnx
          · refine ⟨c1.snoc hi, c2.snoc c1 (fun k j o2 x2 r2 hj hop hs3 => ⟨?_, rfl⟩) (fun _ o2 x2 r2 h2 => ?_), fun o2 x2 hx2 => ?_, fun k a ha => ?_⟩
            · have hjl := (List.getElem?_eq_some_iff.mp hj).1
              have h1 := sk_O C k
              rw [hs3] at h1
              have := h1.1
              have := h1.2.1
              have hne : o2 ≠ o := fun y => sk_goneO hj hop hs3 hjl (o2 := o) (x2 := x) (by rw [hs]; exact List.mem_cons_self) y.symm
              have := c1.ne (a := o2) (c := o) (by omega) (by omega) hne
              rw [sI_so (by omega)]
              rfl
            · rw [hs] at h2
              cases h2
              exact ⟨sI_ss, c3 o x (by rw [hs]; exact List.mem_cons_self)⟩
            · rw [hs2] at hx2
              have := skO_lt hO.2.2 hx2
              rw [posOf_app (by omega), eV_app (by omega)]
              exact c3 o2 x2 (by rw [hs]; exact List.mem_cons_of_mem _ hx2)
            · rw [hs2] at ha
              have hlt := (List.getElem?_eq_some_iff.mp ha).1
              have := skO_lt hO.2.2 (List.mem_reverse.mp (List.mem_of_getElem? ha))
              rw [posOf_app (by omega)]
              refine c4 k a ?_
              rw [hs, List.reverse_cons, List.getElem?_append_left hlt]
              exact ha
    · refine ⟨fun z => absurd z hZ.nz, fun _ => ?_⟩
      refine kft w pl σ1 ?_ (f0.tr f1.fXE) hZ
      rw [← hR]
      unfold pI
      rw [hN]
      rfl
end EXM
