/-! call: the same answer, alike behind it -/
def fkCl (c j : Nat) : Bool := (Nat.beq c 0 && (Nat.beq j 15 || Nat.beq j 16 || Nat.beq j 17)) || (Nat.ble 98 c && Nat.ble c 102) || (Nat.beq c 103 && (Nat.ble 75 j && Nat.ble j 77 || Nat.ble 133 j && Nat.ble j 142)) || (Nat.ble 186 c && Nat.ble c 190)
theorem inZ_iff : ∀ (L : List AD) (v : Nat), v ≤ 1 → inZ L v ≤ 1 ∧ (inZ L v = 1 ↔ v = 1 ∧ ∀ a ∈ L, a.2.2 = 1)
  | [], v, h => ⟨h, ⟨fun e => ⟨e, fun a ha => by cases ha⟩, fun e => e.1⟩⟩
  | a :: L, v, h => by
    have e : inZ (a :: L) v = inZ L (if a.2.2 = 1 then v else 0) := rfl
    rw [e]
    by_cases c : a.2.2 = 1
    · rw [if_pos c]
      obtain ⟨h1, h2⟩ := inZ_iff L v h
      refine ⟨h1, h2.trans ⟨fun z => ⟨z.1, fun x hx => ?_⟩, fun z => ⟨z.1, fun x hx => z.2 x (List.mem_cons_of_mem _ hx)⟩⟩⟩
      rcases List.mem_cons.mp hx with rfl | hx
      · exact c
      · exact z.2 x hx
    · rw [if_neg c]
      obtain ⟨h1, h2⟩ := inZ_iff L 0 (by decide)
      refine ⟨h1, h2.trans ⟨fun z => absurd z.1 (by decide), fun z => absurd (z.2 a List.mem_cons_self) c⟩⟩
theorem inZq_iff (q : FD) : inZq q ≤ 1 ∧ (inZq q = 1 ↔ q.2.2.1 = 1 ∧ ∀ a ∈ q.2.1, a.2.2 = 1) := by
  unfold inZq
  by_cases c : q.2.2.1 = 1
  · rw [if_pos c]
    obtain ⟨h1, h2⟩ := inZ_iff q.2.1 1 (Nat.le_refl _)
    exact ⟨h1, h2.trans ⟨fun z => ⟨c, z.2⟩, fun z => ⟨rfl, z.2⟩⟩⟩
  · rw [if_neg c]
    obtain ⟨h1, h2⟩ := inZ_iff q.2.1 0 (by decide)
    exact ⟨h1, h2.trans ⟨fun z => absurd z.1 (by decide), fun z => absurd z.1 c⟩⟩
section OC
variable {t : Nat → UInt8} {n d f : Nat} {D : List FD} {σ σ' : fkS}
theorem agW_eq {g h : Nat → Int64} {k : Nat} (e : ∀ i, i < k → g i = h i) : agW g k = agW h k := by
  unfold agW
  refine List.map_congr_left fun i hi => ?_
  rw [e i (List.mem_range.mp hi)]
/-- not from outside: nothing -/
theorem m_no {a : Int32} (h126 : σ.1 103 126 = nI D.length) (hL : D.length ≤ 20) (hr : ∀ f q, D[f]? = some q → σ.1 185 f = nI (inZq q)) (no : ¬ okC D a) : Ci (d + 1) 362 [.ref 103, .int a] σ (fun r σ' => (-1 : Int32) = r ∧ σ' = σ) := by
  refine S_M_call ((c_isIn (d := d) (a := a) (n := σ.1 103 126)).mono fun x σ1 hx => ?_)
  obtain ⟨r, rfl, rfl, hr2⟩ := Qi_s hx
  rcases hr2 with ⟨y1, y2, rfl⟩ | ⟨-, rfl⟩
  · refine ⟨fun z => absurd z (by decide), fun _ => ?_⟩
    obtain ⟨f, hf, rfl⟩ := nI_of y1
    rw [h126] at y2
    have fl : f < D.length := by
      rcases Nat.lt_or_ge f D.length with c | c
      · exact c
      · exact absurd y2 (nI_nlt c hf)
    have hq : D[f]? = some D[f] := List.getElem?_eq_getElem fl
    generalize D[f] = q at hq
    obtain ⟨i1, i2⟩ := inZq_iff q
    have z0 : inZq q = 0 := by
      have : ¬ inZq q = 1 := fun z => no ⟨f, q, rfl, hq, i2.mp z⟩
      omega
    rw [show (nI f).toNatClampNeg = f from nI_clamp hf, hr f q hq, z0]
    exact ⟨vp_in_nI (by omega) (by decide), fun z => absurd (by decide) z, fun _ => ⟨rfl, rfl⟩⟩
  · exact ⟨fun _ => ⟨rfl, rfl⟩, fun z => absurd rfl z⟩
/-- a PROGRAM is kept, or none -/
def KPs (σ : fkS) : Prop := (σ.1 62 0 = 0 ∧ σ.1 103 126 = 0) ∨ ∃ t n D, okP t n D ∧ KPc t D σ ∧ KPr t D σ
theorem okJ_of (h : okP t n D) : okJ t n D := ⟨h.2.2.1, h.2.2.2.2.1, (m2_none.mp (show m2 (jNm t [] D) (jBd t D D) = none from h.2.2.2.2.2)).2⟩
theorem op_call (h10 : σ.2.2 0 10 = 63) (hA : rA σ) (hK : KPs σ) {J : fkS → Prop} (hJ0 : J σ) (hJ1 : ∀ σ2, Fr fkCl σ σ2 → σ2.2.2 0 10 = 63 → rO σ2 → rS σ2 → J σ2) (a : Int32) : Ci (d + 5) 223 [.ref 0, .int a] σ (fun r σ1 => Ci (d + 5) 362 [.ref 103, .int a] σ1 (fun r2 σ2 => r = r2 ∧ J σ2)) := by
  rcases hK with ⟨k1, k2⟩ | ⟨t, n, D, hP, hX, hM⟩
  · have hT : KPt [] σ := ⟨(fun f q hq => by simp at hq), k1, by decide, fun q hq => by cases hq⟩
    refine S_X_call (d := d + 4) h10 ⟨by decide, yI rfl (c_takes hT a) fun x σ1 ⟨e1, hx⟩ w1 => ?_⟩
    subst e1
    rw [w1]
    rcases hx with ⟨-, f, q, -, hq, -⟩ | ⟨rfl, hn⟩
    · simp at hq
    · refine ⟨fun z => absurd rfl z, fun _ => ?_⟩
      refine (m_no (d := d + 4) (D := []) k2 (by decide) (fun f q hq => by simp at hq) hn).mono fun y σ2 hy => ?_
      obtain ⟨r, rfl, e, rfl⟩ := Qi_s hy
      exact ⟨e, hJ0⟩
  · have hJ := okJ_of hP
    have hT : KPt D σ := ⟨fun f q hq => ⟨(hX.2.1 f q hq).1, (hX.2.1 f q hq).2.2.1, (hX.2.1 f q hq).2.2.2⟩, hX.2.2, hJ.1, fun q hq => ⟨(hJ.2.1 q hq).2.1.2, (hJ.2.1 q hq).2.2.2.1.2, fun a ha => ((hJ.2.1 q hq).2.2.1 a ha).2.2⟩⟩
    refine S_X_call (d := d + 4) h10 ⟨by decide, yI rfl (c_takes hT a) fun x σ1 ⟨e1, hx⟩ w1 => ?_⟩
    subst e1
    rw [w1]
    rcases hx with ⟨rfl, f, q, rfl, hq, hg, ha⟩ | ⟨rfl, hn⟩
    · refine ⟨fun _ => ⟨by decide, ?_⟩, fun z => absurd z (by decide)⟩
      have fl := (List.getElem?_eq_some_iff.mp hq).1
      have t4 := hJ.t4 f
      obtain ⟨b1, b2, b3, b4⟩ := rBd_at hq
      have hty : ∀ k, k < tkD D f → tyD D f k = 1 := fun k hk => by
        unfold tyD
        rw [hq]
        rw [b3] at hk
        show (match q.2.1[k]? with
          | some a => a.2.2
          | none => 0) = 1
        rw [List.getElem?_eq_getElem hk]
        exact ha _ (List.getElem_mem hk)
      refine c_start (d := d) hJ hX fl hty fun σ3 h3 => ?_
      obtain ⟨x1, x2, ⟨y1, y2, y3, y4, y5, y6, y7⟩, x4, x5⟩ := h3
      have f3 : Fr fkCl σ1 σ3 := by
        refine (Fr.rf.sR rfl : Fr fkCl σ1 (sR σ1 98 0 63)).tr (x2.mono fun c j z => ?_)
        unfold fkXC at z
        unfold fkCl
        simp only [Bool.or_eq_true, Bool.and_eq_true, Nat.beq_eq, Nat.ble_eq] at z ⊢
        omega
      have key : ∀ v : Int32, (∀ x, (rRun t D f (agW (σ1.2.1 2) (tkD D f))).2 = .ok [x] → v = 0) → (∀ x, (rRun t D f (agW (σ1.2.1 2) (tkD D f))).2 = .error x → v = 2) → Ci (d + 5) 362 [.ref 103, .int (nI f)] (sI (sI (sL σ3 0 15 ((σ3.1 98 13).toInt64)) 0 16 (0 : Int32)) 0 17 (σ3.1 98 12)) (fun r2 σ2 => v = r2 ∧ J σ2) := by
        intro v v0 v2
        have f4 : Fr fkCl σ1 (sI (sI (sL σ3 0 15 ((σ3.1 98 13).toInt64)) 0 16 (0 : Int32)) 0 17 (σ3.1 98 12)) := f3.tr (((Fr.rf.sL rfl).sI rfl).sI rfl)
        have f9 : Fr (fun c j => Nat.beq c 0 && (Nat.beq j 15 || Nat.beq j 16 || Nat.beq j 17)) σ3 (sI (sI (sL σ3 0 15 ((σ3.1 98 13).toInt64)) 0 16 (0 : Int32)) 0 17 (σ3.1 98 12)) := ((Fr.rf.sL rfl).sI rfl).sI rfl
        have g15 : (sI (sI (sL σ3 0 15 ((σ3.1 98 13).toInt64)) 0 16 (0 : Int32)) 0 17 (σ3.1 98 12)).2.1 0 15 = (σ3.1 98 13).toInt64 := sL_ss
        have g16 : (sI (sI (sL σ3 0 15 ((σ3.1 98 13).toInt64)) 0 16 (0 : Int32)) 0 17 (σ3.1 98 12)).1 0 16 = 0 := (sI_so (by decide)).trans sI_ss
        have g17 : (sI (sI (sL σ3 0 15 ((σ3.1 98 13).toInt64)) 0 16 (0 : Int32)) 0 17 (σ3.1 98 12)).1 0 17 = σ3.1 98 12 := sI_ss
        have g9 := (f9 98 9 rfl).1.trans y1
        have g10 := (f9 98 10 rfl).1.trans y4
        have g11 := (f9 98 11 rfl).1.trans y6
        have r10 : (sI (sI (sL σ3 0 15 ((σ3.1 98 13).toInt64)) 0 16 (0 : Int32)) 0 17 (σ3.1 98 12)).2.2 0 10 = 63 := (f4 0 10 rfl).2.2.trans h10
        generalize sI (sI (sL σ3 0 15 ((σ3.1 98 13).toInt64)) 0 16 (0 : Int32)) 0 17 (σ3.1 98 12) = σ4 at f4 g15 g16 g17 g9 g10 g11 r10 ⊢
        have hM4 : KPr t D σ4 := by
          obtain ⟨⟨m1, m2'⟩, m3, m4⟩ := hM
          refine ⟨⟨m1, fun i q hq => ?_⟩, fun f q hq => ?_, (f4 103 126 rfl).1.trans m4⟩
          · obtain ⟨a1, a2, a3⟩ := m2' i q hq
            rw [(f4 180 i rfl).1, (f4 181 i rfl).1, (f4 182 i rfl).1]
            exact ⟨a1, a2, a3⟩
          · obtain ⟨a1, a2, a3⟩ := m3 f q hq
            rw [(f4 183 f rfl).1, (f4 184 f rfl).1, (f4 185 f rfl).1]
            exact ⟨a1, a2, a3⟩
        have eag : agW (σ4.2.1 149) (tkD D f) = agW (σ1.2.1 2) (tkD D f) := agW_eq fun i hi => ((f4 149 i rfl).2.1.trans (hA i (by omega)).symm)
        have gv : gvD D f = 1 := b4.trans hg
        have fin : ∀ σ5, YRs σ4 (rRun t D f (agW (σ1.2.1 2) (tkD D f))) σ5 → ((∃ x, (rRun t D f (agW (σ1.2.1 2) (tkD D f))).2 = .ok [x]) ∨ ∃ x, (rRun t D f (agW (σ1.2.1 2) (tkD D f))).2 = .error x) → J σ5 := by
          intro σ5 ⟨z1, z2, z3, z4, z5, z6, z7, z8⟩ hc
          have f5 : Fr fkCl σ4 σ5 := z2.mono fun c j q => by
            unfold fkYQ fkYC at q
            unfold fkCl
            simp only [Bool.or_eq_true, Bool.and_eq_true, Nat.beq_eq, Nat.ble_eq] at q ⊢
            omega
          have e0 : ∀ j, fkYQ 0 j = false := fun j => rfl
          have e98 : ∀ j, fkYQ 98 j = false := fun j => rfl
          refine hJ1 σ5 (f4.tr f5) ((z2 0 10 (e0 _)).2.2.trans r10) ⟨?_, ?_, ?_⟩ ⟨?_, ?_, ?_⟩
          · rw [(z2 0 15 (e0 _)).2.1, g15]
            rcases hc with ⟨x, hx⟩ | ⟨x, hx⟩
            · rw [(x4 x hx).2, (z7 x hx).2]
            · rw [(x5 x hx).2.1, (z8 x hx).2]
              rfl
          · rw [(z2 0 16 (e0 _)).1, g16, z3]
          · rw [(z2 0 17 (e0 _)).1, g17]
            rcases hc with ⟨x, hx⟩ | ⟨x, hx⟩
            · rw [(x4 x hx).1, (z7 x hx).1]
            · rw [(x5 x hx).1, (z8 x hx).1]
          · rw [(z2 98 9 (e98 _)).1, g9, z4]
          · rw [(z2 98 10 (e98 _)).1, g10, z5]
          · rw [(z2 98 11 (e98 _)).1, g11, z6]
        refine S_M_call (d := d + 4) ((c_isIn (d := d + 4) (a := nI f) (n := σ4.1 103 126)).mono fun x σ5 hx => ?_)
        obtain ⟨r, rfl, rfl, hr2⟩ := Qi_s hx
        have lt : nI f < σ5.1 103 126 := by
          rw [hM4.2.2]
          exact nI_lt fl (by have := hJ.1; omega)
        rcases hr2 with ⟨-, -, rfl⟩ | ⟨y, -⟩
        · refine ⟨fun z => absurd z (by decide), fun _ => ?_⟩
          have l20 := hJ.1
          rw [show (nI f).toNatClampNeg = f from nI_clamp (by omega), (hM4.2.1 f q hq).2.2, (inZq_iff q).2.mpr ⟨hg, ha⟩]
          refine ⟨vp_in_nI (by omega) (by decide), fun _ => ?_, fun z => absurd z (by decide)⟩
          refine m_start (d := d + 1) hJ hM4 fl hty gv (fun x σ6 hx h6 => ?_) (fun x σ6 hx h6 => ?_)
          · rw [eag] at hx h6
            exact ⟨v0 x hx, fin σ6 h6 (Or.inl ⟨x, hx⟩)⟩
          · rw [eag] at hx h6
            exact ⟨v2 x hx, fin σ6 h6 (Or.inr ⟨x, hx⟩)⟩
        · exact absurd ⟨nI_pos (by have := hJ.1; omega), lt⟩ y
      refine ⟨fun y => key 2 (fun x hx => absurd (x4 x hx).1 y) (fun x hx => rfl), fun y => key 0 (fun x hx => rfl) (fun x hx => ?_)⟩
      obtain ⟨u1, -, u3, u4⟩ := x5 x hx
      rw [y] at u1
      exact absurd u1.symm (nI_ne0 (by omega) (by omega))
    · refine ⟨fun z => absurd rfl z, fun _ => ?_⟩
      refine (m_no (d := d + 4) (D := D) hM.2.2 hJ.1 (fun f q hq => (hM.2.1 f q hq).2.2) hn).mono fun y σ2 hy => ?_
      obtain ⟨r, rfl, e, rfl⟩ := Qi_s hy
      exact ⟨e, hJ0⟩
end OC
