/-! THE REFERENCE lays the turns of an E -/
section TN
variable {t : Nat → UInt8} {n mm : Nat} {D : List FD}
theorem TM.cs {L L' : List tE} {σ : fkS} (h : TM L σ) (e : L' = L) : TM L' σ := by
  subst e
  exact h
def TG0 (t : Nat → UInt8) (n mm : Nat) (D : List FD) (T : Tr) : Prop := ∀ (d : Nat) (e : List (List Nat × Nat)) (w : Option Nat) (L : List tE) (p : Nat) (σ : fkS) (x : Int32), p = L.length → dpt T + 4 ≤ d → okT t n T 0 0 0 0 → sz T ≤ 400 → At T 0 x 0 mm σ → CM t n D mm e w σ → TM L σ → p + lnT T ≤ 4000 → e.length + nD T ≤ 1000 → Cv d 360 [.ref 103, .int x] σ (fun σ' => CM t n D mm e w σ' ∧ TM (L ++ tgT t D T p e) σ' ∧ Fr fkTC σ σ')
def TG1 (t : Nat → UInt8) (n mm : Nat) (D : List FD) (T : Tr) : Prop := ∀ (d : Nat) (e : List (List Nat × Nat)) (w : Option Nat) (L : List tE) (p : Nat) (σ : fkS) (x v1 : Int32) (a z k : Nat) (Q : Option Value → fkS → Prop), p = L.length → dpt T + 4 ≤ d → okT t n T 1 a z k → sz T ≤ 400 → At T 1 x 0 mm σ → CM t n D mm e w σ → TM L σ → p + lnT T ≤ 4000 → e.length + nD T ≤ 1000 → (∀ σ', CM t n D mm e w σ' → TM (L ++ tgT t D T p e) σ' → Fr fkTC σ σ' → Wq 360 (d + 1) 139 [some (.ref 103), some (.int v1), none, none, some (.int (-1 : Int32))] [] σ' Q) → Wq 360 (d + 1) 139 [some (.ref 103), some (.int v1), none, none, some (.int x)] [] σ Q
set_option maxHeartbeats 8000000 in
theorem tn_all (hm : mm ≤ 3000) : ∀ T : Tr, TG0 t n mm D T ∧ TG1 t n mm D T := by
  refine tr_ind2 ⟨fun d e w L p σ x hp hd ho => absurd (show 0 = 1 from ho) (by decide), fun d e w L p σ x v1 a z k Q hp hd ho hs ha h hL hl he hQ => ?_⟩ (fun kd a b c d0 l r hl hr hxy => ⟨fun d e w L p σ x hp hd ho hs ha h hL hlen he => ?_, fun d e w L p σ x v1 a0 z0 k0 Q hp hd ho hs ha h hL hlen he hQ => ?_⟩)
  · obtain ⟨-, rfl⟩ := ha
    exact hQ σ h (hL.cs (List.append_nil L)) Fr.rf
  · subst hp
    obtain ⟨d, rfl⟩ : ∃ d', d = d' + 1 := ⟨d - 1, by omega⟩
    obtain ⟨k2, _, _, _, _, _, _, e2, hk⟩ := ok_k ho
    have ek : kd = k2 := by cases e2; rfl
    have hk' : kd ≤ 12 := by omega
    clear e2 hk ek
    have h4 : e.length ≤ 1000 := h.2.2.2.1
    have hP := h.1.1
    rcases (show kd = 0 ∨ kd = 1 ∨ kd = 2 ∨ kd = 3 ∨ kd = 4 ∨ kd = 5 ∨ kd = 6 ∨ kd = 7 ∨ kd = 8 ∨ kd = 9 ∨ kd = 10 ∨ kd = 11 ∨ kd = 12 by omega) with rfl | rfl | rfl | rfl | rfl | rfl | rfl | rfl | rfl | rfl | rfl | rfl | rfl
    · obtain ⟨j, rfl, -, j2, j3, j4⟩ := at_0.mp ha
      have hlen2 : L.length + 1 ≤ 4000 := hlen
      have cj : (nI j).toNatClampNeg = j := nI_clamp (by omega)
      have vj : vp_in (nI j) 3000 := vp_in_nI (by omega) (by decide)
      refine S_M_turns ?_
      rw [cj, j3]
      refine ⟨vj, fun y => absurd y (by decide), fun _ => ⟨vj, ?_⟩, fun y => absurd y (by decide), fun y => absurd y (by decide), fun y => absurd y (by decide), fun y => absurd y (by decide), fun y => absurd y (by decide), fun y => absurd y (by decide), fun y => absurd y (by decide), fun y => absurd y (by decide), fun y => absurd y (by decide), fun y => absurd y (by decide), fun y => absurd y (by decide), trivial⟩
      rw [j4]
      exact vI (tn_lay h hL (by (try simp only [List.length_append, List.length_cons, List.length_nil, List.length_replicate, tg_len]) <;> omega) (Or.inr (Or.inr rfl))) fun x2 σ9 ⟨_, h9, l9, f9⟩ => ⟨h9, l9.cs rfl, f9⟩
    · obtain ⟨o1, o2, o3, o4, o5⟩ := ok_1.mp ho
      obtain ⟨j, rfl, -, j2, j1, j3, j4, j5, j6, j7⟩ := at_1.mp ha
      have hs' : a + sz l ≤ 400 := hs
      have hd' : 2 * a + dpt l + 4 ≤ d + 1 := hd
      have he' : e.length + max (nD l) (nD r) ≤ 1000 := he
      have hlen2 : L.length + (lnT l + a) ≤ 4000 := hlen
      have key : ∀ i, i < a → ∀ d, 2 * (i + 1) + dpt l + 4 ≤ d → Cv d 360 [.ref 103, .int (nI (j + (a - 1 - i)))] σ (fun σ' => CM t n D mm e w σ' ∧ TM (L ++ (tgT t D l L.length e ++ List.replicate (i + 1) (3, 0, 0))) σ' ∧ Fr fkTC σ σ') := by
        intro i
        induction i with
        | zero =>
          intro hi d hd
          obtain ⟨d, rfl⟩ : ∃ d', d = d' + 1 := ⟨d - 1, by omega⟩
          have ej : j + (a - 1 - 0) = j + a - 1 := by omega
          have cj : (nI (j + a - 1)).toNatClampNeg = j + a - 1 := nI_clamp (by omega)
          have vj : vp_in (nI (j + a - 1)) 3000 := vp_in_nI (by omega) (by decide)
          have j4' : σ.1 164 (j + a - 1) = 1 := by rw [← ej]; exact j4 _ (by omega)
          rw [ej]
          refine S_M_turns ?_
          rw [cj, j4']
          refine ⟨vj, fun y => absurd y (by decide), fun y => absurd y (by decide), fun _ => ⟨vj, ?_⟩, fun y => absurd y (by decide), fun y => absurd y (by decide), fun y => absurd y (by decide), fun y => absurd y (by decide), fun y => absurd y (by decide), fun y => absurd y (by decide), fun y => absurd y (by decide), fun y => absurd y (by decide), fun y => absurd y (by decide), fun y => absurd y (by decide), trivial⟩
          refine vV (hl.1 d e w L L.length σ _ rfl (by omega) o4 (by omega) j7 h hL (by omega) (by omega)) fun σ1 ⟨h1, l1, f1⟩ => ?_
          exact vI (tn_lay h1 l1 (by (try simp only [List.length_append, List.length_cons, List.length_nil, List.length_replicate, tg_len]) <;> omega) (Or.inr (Or.inr rfl))) fun x2 σ9 ⟨_, h9, l9, f9⟩ => ⟨h9, l9.cs (List.append_assoc _ _ _).symm, f1.tr f9⟩
        | succ i ih =>
          intro hi d hd
          obtain ⟨d, rfl⟩ : ∃ d', d = d' + 1 := ⟨d - 1, by omega⟩
          have cj : (nI (j + (a - 1 - (i + 1)))).toNatClampNeg = j + (a - 1 - (i + 1)) := nI_clamp (by omega)
          have vj : vp_in (nI (j + (a - 1 - (i + 1)))) 3000 := vp_in_nI (by omega) (by decide)
          have ej : j + (a - 1 - (i + 1)) + 1 = j + (a - 1 - i) := by omega
          refine S_M_turns ?_
          rw [cj, j4 _ (by omega), j5 _ (by omega), ej]
          refine ⟨vj, fun y => absurd y (by decide), fun y => absurd y (by decide), fun _ => ⟨vj, ?_⟩, fun y => absurd y (by decide), fun y => absurd y (by decide), fun y => absurd y (by decide), fun y => absurd y (by decide), fun y => absurd y (by decide), fun y => absurd y (by decide), fun y => absurd y (by decide), fun y => absurd y (by decide), fun y => absurd y (by decide), fun y => absurd y (by decide), trivial⟩
          refine vV (ih (by omega) d (by omega)) fun σ1 ⟨h1, l1, f1⟩ => ?_
          exact vI (tn_lay h1 l1 (by (try simp only [List.length_append, List.length_cons, List.length_nil, List.length_replicate, tg_len]) <;> omega) (Or.inr (Or.inr rfl))) fun x2 σ9 ⟨_, h9, l9, f9⟩ => ⟨h9, l9.cs (by rw [List.replicate_succ' (n := i + 1), List.append_assoc, List.append_assoc]), f1.tr f9⟩
      have k0 := key (a - 1) (by omega) (d + 1) (by omega)
      rw [show j + (a - 1 - (a - 1)) = j by omega, show a - 1 + 1 = a by omega] at k0
      exact k0
    · obtain ⟨o1, -, -⟩ := ok_2.mp ho
      obtain ⟨j, rfl, -, j2, j3, j4, j5⟩ := at_2.mp ha
      have hlen2 : L.length + 1 ≤ 4000 := hlen
      have hd' : 0 + 4 ≤ d + 1 := hd
      obtain ⟨d, rfl⟩ : ∃ d', d = d' + 1 := ⟨d - 1, by omega⟩
      obtain ⟨n1, n2⟩ := nm_in o1
      have cj : (nI j).toNatClampNeg = j := nI_clamp (by omega)
      have vj : vp_in (nI j) 3000 := vp_in_nI (by omega) (by decide)
      refine S_M_turns ?_
      rw [cj, j3]
      refine ⟨vj, fun y => absurd y (by decide), fun y => absurd y (by decide), fun y => absurd y (by decide), fun _ => ⟨vj, vj, ?_⟩, fun y => absurd y (by decide), fun y => absurd y (by decide), fun y => absurd y (by decide), fun y => absurd y (by decide), fun y => absurd y (by decide), fun y => absurd y (by decide), fun y => absurd y (by decide), fun y => absurd y (by decide), fun y => absurd y (by decide), trivial⟩
      rw [j4, j5]
      refine vI (k_pl h n1) fun x s ⟨e1, e2⟩ => ?_
      subst e1
      subst e2
      exact vI (tn_lay h hL (by (try simp only [List.length_append, List.length_cons, List.length_nil, List.length_replicate, tg_len]) <;> omega) (Or.inr (Or.inr rfl))) fun x2 σ9 ⟨_, h9, l9, f9⟩ => ⟨h9, l9.cs rfl, f9⟩
    · obtain ⟨o1, o2, o3, o4, -⟩ := ok_3.mp ho
      obtain ⟨j, rfl, -, j2, j3, j4, j5, j6, j7⟩ := at_3.mp ha
      have hs' : 1 + sz l ≤ 400 := hs
      have hd' : 2 + dpt l + 4 ≤ d + 1 := hd
      have he' : e.length + max (nD l) (nD r) ≤ 1000 := he
      have hlen2 : L.length + (lnT l + 1) ≤ 4000 := hlen
      obtain ⟨d, rfl⟩ : ∃ d', d = d' + 1 := ⟨d - 1, by omega⟩
      obtain ⟨n1, n2⟩ := nm_in o1
      have cj : (nI j).toNatClampNeg = j := nI_clamp (by omega)
      have vj : vp_in (nI j) 3000 := vp_in_nI (by omega) (by decide)
      refine S_M_turns ?_
      rw [cj, j3]
      refine ⟨vj, fun y => absurd y (by decide), fun y => absurd y (by decide), fun y => absurd y (by decide), fun y => absurd y (by decide), fun _ => ⟨vj, ?_⟩, fun y => absurd y (by decide), fun y => absurd y (by decide), fun y => absurd y (by decide), fun y => absurd y (by decide), fun y => absurd y (by decide), fun y => absurd y (by decide), fun y => absurd y (by decide), fun y => absurd y (by decide), trivial⟩
      refine hl.2 (d + 1) e w L L.length σ _ _ a b 0 _ rfl (by omega) o4 (by omega) j7 h hL (by omega) (by omega) fun σ1 h1 l1 f1 => ?_
      refine S_M_turns_139 (d := d + 1) ⟨fun _ => ⟨?_, ?_, ?_⟩, fun y => absurd (by decide) y⟩
      · exact vj
      · exact vj
      rw [cj, (f1 172 j (fkTC_no (by omega))).1, (f1 173 j (fkTC_no (by omega))).1, j4, j5]
      refine vI (k_fn h1.1 n1) fun x s ⟨e1, e2⟩ => ?_
      subst e1
      subst e2
      exact vI (tn_lay h1 l1 (by (try simp only [List.length_append, List.length_cons, List.length_nil, List.length_replicate, tg_len]) <;> omega) (Or.inr (Or.inr rfl))) fun x2 σ9 ⟨_, h9, l9, f9⟩ => ⟨h9, l9.cs (List.append_assoc _ _ _).symm, f1.tr f9⟩
    · obtain ⟨o1, o2, -, -⟩ := ok_4.mp ho
      obtain ⟨j, rfl, -, j2, j3, j6, j4, j5⟩ := at_4.mp ha
      have hlen2 : L.length + 1 ≤ 4000 := hlen
      have hd' : 0 + 4 ≤ d + 1 := hd
      obtain ⟨d, rfl⟩ : ∃ d', d = d' + 1 := ⟨d - 1, by omega⟩
      obtain ⟨n1, n2⟩ := nm_in o1
      have cj : (nI j).toNatClampNeg = j := nI_clamp (by omega)
      have vj : vp_in (nI j) 3000 := vp_in_nI (by omega) (by decide)
      refine S_M_turns ?_
      rw [cj, j3]
      refine ⟨vj, fun y => absurd y (by decide), fun y => absurd y (by decide), fun y => absurd y (by decide), fun y => absurd y (by decide), fun y => absurd y (by decide), fun _ => ⟨vj, vj, ?_⟩, fun y => absurd y (by decide), fun y => absurd y (by decide), fun y => absurd y (by decide), fun y => absurd y (by decide), fun y => absurd y (by decide), fun y => absurd y (by decide), fun y => absurd y (by decide), trivial⟩
      rw [j4, j5]
      refine vI (k_fn h.1 n1) fun x s ⟨e1, e2⟩ => ?_
      subst e1
      subst e2
      exact vI (tn_lay h hL (by (try simp only [List.length_append, List.length_cons, List.length_nil, List.length_replicate, tg_len]) <;> omega) (Or.inr (Or.inr rfl))) fun x2 σ9 ⟨_, h9, l9, f9⟩ => ⟨h9, l9.cs rfl, f9⟩
    · obtain ⟨j, rfl, -, j2, j3⟩ := at_5.mp ha
      have hlen2 : L.length + 1 ≤ 4000 := hlen
      have cj : (nI j).toNatClampNeg = j := nI_clamp (by omega)
      have vj : vp_in (nI j) 3000 := vp_in_nI (by omega) (by decide)
      refine S_M_turns ?_
      rw [cj, j3]
      refine ⟨vj, fun y => absurd y (by decide), fun y => absurd y (by decide), fun y => absurd y (by decide), fun y => absurd y (by decide), fun y => absurd y (by decide), fun y => absurd y (by decide), fun _ => ?_, fun y => absurd y (by decide), fun y => absurd y (by decide), fun y => absurd y (by decide), fun y => absurd y (by decide), fun y => absurd y (by decide), fun y => absurd y (by decide), trivial⟩
      exact vI (tn_lay h hL (by (try simp only [List.length_append, List.length_cons, List.length_nil, List.length_replicate, tg_len]) <;> omega) (Or.inr (Or.inr rfl))) fun x2 σ9 ⟨_, h9, l9, f9⟩ => ⟨h9, l9.cs rfl, f9⟩
    · obtain ⟨o1, o2, o3, o4⟩ := ok_6.mp ho
      obtain ⟨j, rfl, -, j2, j3, j4, j5, j6, j7⟩ := at_6.mp ha
      have hs' : 1 + sz l + sz r ≤ 400 := hs
      have hd' : 2 + max (dpt l) (dpt r) + 4 ≤ d + 1 := hd
      have he' : e.length + max (nD l) (nD r) ≤ 1000 := he
      have hlen2 : L.length + (lnT l + lnT r + 1) ≤ 4000 := hlen
      have cj : (nI j).toNatClampNeg = j := nI_clamp (by omega)
      have vj : vp_in (nI j) 3000 := vp_in_nI (by omega) (by decide)
      refine S_M_turns ?_
      rw [cj, j3]
      refine ⟨vj, fun y => absurd y (by decide), fun y => absurd y (by decide), fun y => absurd y (by decide), fun y => absurd y (by decide), fun y => absurd y (by decide), fun y => absurd y (by decide), fun y => absurd y (by decide), fun _ => ?_, fun y => absurd y (by decide), fun y => absurd y (by decide), fun y => absurd y (by decide), fun y => absurd y (by decide), fun y => absurd y (by decide), trivial⟩
      refine S_M_turns_231 ?_
      rw [cj]
      refine ⟨vj, ?_⟩
      refine vV (hl.1 d e w L L.length σ _ rfl (by omega) o3 (by omega) j6 h hL (by omega) (by omega)) fun σ1 ⟨h1, l1, f1⟩ => ⟨vj, ?_⟩
      rw [(f1 167 j (fkTC_no (by omega))).1]
      refine vV (hr.1 d e w _ (L.length + lnT l) σ1 _ (by (try simp only [List.length_append, List.length_cons, List.length_nil, List.length_replicate, tg_len]) <;> omega) (by omega) o4 (by omega) (at_tc j7 f1) h1 l1 (by omega) (by omega)) fun σ2 ⟨h2, l2, f2⟩ => ⟨vj, ?_⟩
      rw [((f1.tr f2) 164 j (fkTC_no (by omega))).1, ((f1.tr f2) 176 j (fkTC_no (by omega))).1, j3]
      exact ⟨fun y => absurd rfl y, fun _ => ⟨vj, vI (tn_lay (a2 := 0) h2 l2 (by (try simp only [List.length_append, List.length_cons, List.length_nil, List.length_replicate, tg_len]) <;> omega) (Or.inl rfl)) fun x2 σ9 ⟨_, h9, l9, f9⟩ => ⟨h9, l9.cs (by simp only [tg_6, List.append_assoc, List.cons_append, List.nil_append]), (f1.tr f2).tr f9⟩⟩⟩
    · obtain ⟨o1, o2, o3, o4⟩ := ok_7.mp ho
      obtain ⟨j, rfl, -, j2, j3, j4, j5, j6, j7⟩ := at_7.mp ha
      have hs' : 1 + sz l + sz r ≤ 400 := hs
      have hd' : 2 + max (dpt l) (dpt r) + 4 ≤ d + 1 := hd
      have he' : e.length + max (nD l) (nD r) ≤ 1000 := he
      have hlen2 : L.length + (lnT l + lnT r + 1) ≤ 4000 := hlen
      have cj : (nI j).toNatClampNeg = j := nI_clamp (by omega)
      have vj : vp_in (nI j) 3000 := vp_in_nI (by omega) (by decide)
      refine S_M_turns ?_
      rw [cj, j3]
      refine ⟨vj, fun y => absurd y (by decide), fun y => absurd y (by decide), fun y => absurd y (by decide), fun y => absurd y (by decide), fun y => absurd y (by decide), fun y => absurd y (by decide), fun y => absurd y (by decide), fun y => absurd y (by decide), fun _ => ?_, fun y => absurd y (by decide), fun y => absurd y (by decide), fun y => absurd y (by decide), fun y => absurd y (by decide), trivial⟩
      refine S_M_turns_231 ?_
      rw [cj]
      refine ⟨vj, ?_⟩
      refine vV (hl.1 d e w L L.length σ _ rfl (by omega) o3 (by omega) j6 h hL (by omega) (by omega)) fun σ1 ⟨h1, l1, f1⟩ => ⟨vj, ?_⟩
      rw [(f1 167 j (fkTC_no (by omega))).1]
      refine vV (hr.1 d e w _ (L.length + lnT l) σ1 _ (by (try simp only [List.length_append, List.length_cons, List.length_nil, List.length_replicate, tg_len]) <;> omega) (by omega) o4 (by omega) (at_tc j7 f1) h1 l1 (by omega) (by omega)) fun σ2 ⟨h2, l2, f2⟩ => ⟨vj, ?_⟩
      rw [((f1.tr f2) 164 j (fkTC_no (by omega))).1, ((f1.tr f2) 176 j (fkTC_no (by omega))).1, j3]
      exact ⟨fun _ => ⟨vj, fun y => absurd rfl y, fun _ => ⟨vj, vI (tn_lay (a2 := 0) h2 l2 (by (try simp only [List.length_append, List.length_cons, List.length_nil, List.length_replicate, tg_len]) <;> omega) (Or.inr (Or.inl rfl))) fun x2 σ9 ⟨_, h9, l9, f9⟩ => ⟨h9, l9.cs (by simp only [tg_7, List.append_assoc, List.cons_append, List.nil_append]), (f1.tr f2).tr f9⟩⟩⟩, fun y => absurd y (by decide)⟩
    · obtain ⟨o1, o3, o4⟩ := ok_8.mp ho
      obtain ⟨j, rfl, -, j2, j3, j4, j5, j6, j7⟩ := at_8.mp ha
      have hs' : sz l + sz r ≤ 400 := hs
      have hd' : 2 + max (dpt l) (dpt r) + 4 ≤ d + 1 := hd
      have he' : e.length + max (nD l) (1 + nD r) ≤ 1000 := he
      have hlen2 : L.length + (lnT l + lnT r + 1) ≤ 4000 := hlen
      obtain ⟨n1, n2⟩ := nm_in o1
      have cj : (nI j).toNatClampNeg = j := nI_clamp (by omega)
      have vj : vp_in (nI j) 3000 := vp_in_nI (by omega) (by decide)
      refine S_M_turns ?_
      rw [cj, j3]
      refine ⟨vj, fun y => absurd y (by decide), fun y => absurd y (by decide), fun y => absurd y (by decide), fun y => absurd y (by decide), fun y => absurd y (by decide), fun y => absurd y (by decide), fun y => absurd y (by decide), fun y => absurd y (by decide), fun y => absurd y (by decide), fun _ => ⟨vj, ?_⟩, fun y => absurd y (by decide), fun y => absurd y (by decide), fun y => absurd y (by decide), trivial⟩
      refine vV (hl.1 d e w L L.length σ _ rfl (by omega) o3 (by omega) j6 h hL (by omega) (by omega)) fun σ1 ⟨h1, l1, f1⟩ => ?_
      rw [h1.2.2.1]
      refine vI (tn_lay h1 l1 (by (try simp only [List.length_append, List.length_cons, List.length_nil, List.length_replicate, tg_len]) <;> omega) (Or.inr (Or.inr rfl))) fun x2 σ2 ⟨_, h2, l2, f2⟩ => ⟨vj, vj, ?_⟩
      have f12 := f1.tr f2
      rw [(f12 172 j (fkTC_no (by omega))).1, (f12 173 j (fkTC_no (by omega))).1, j4, j5]
      refine vV (k_bind (ty := 0) h2 (by omega) n1 (by decide)) fun σ3 ⟨h3, f3⟩ => ⟨vj, ?_⟩
      have f13 := f12.tr f3.ck2
      rw [(f13 167 j (fkTC_no (by omega))).1]
      refine vV (hr.1 d _ w _ (L.length + lnT l + 1) σ3 _ (by (try simp only [List.length_append, List.length_cons, List.length_nil, List.length_replicate, tg_len]) <;> omega) (by omega) o4 (by omega) (at_tc j7 f13) h3 (l2.ck f3) (by omega) (by show e.length + 1 + nD r ≤ 1000; omega)) fun σ4 ⟨h4', l4, f4⟩ => ?_
      have kd := k_drop (q := [(nmT t a b, 0)]) (v := σ4.1 103 117 - 1) h4' (by
        rw [h4'.2.2.1, List.length_cons, show (1 : Int32) = nI 1 from rfl, nI_sub (by omega), Nat.add_sub_cancel])
      exact ⟨kd.1, (l4.ck kd.2).cs (by simp only [tg_8, List.append_assoc, List.cons_append, List.nil_append]), (f13.tr f4).tr kd.2.ck2⟩
    · obtain ⟨o1, o2, o3, o4⟩ := ok_9.mp ho
      obtain ⟨j, rfl, -, j2, j3, j4, j5, j6, j7⟩ := at_9.mp ha
      cases r with
      | leaf => exact absurd (show 2 = 1 from o4) (by decide)
      | inner k2 v u y z =>
      obtain ⟨rfl, o5, o6⟩ := ok_20.mp o4
      obtain ⟨j', e', -, jb, j8, j9⟩ := at_20.mp j7
      have ej : j' = j := ((nI_eq (by omega) (by omega)).mp e').symm
      subst ej
      obtain ⟨hy, hz⟩ := hxy 20 v.1 v.2.1 v.2.2.1 v.2.2.2 y z rfl
      have hd' : 2 + max (dpt l) (max (dpt y) (dpt z)) + 4 ≤ d + 1 := hd
      have hs' : sz l + (sz y + sz z) ≤ 400 := hs
      have he' : e.length + max (nD l) (max (nD y) (nD z)) ≤ 1000 := he
      have hlen2 : L.length + (lnT l + (lnT y + lnT z + 1) + 1) ≤ 4000 := hlen
      have cj : (nI j').toNatClampNeg = j' := nI_clamp (by omega)
      have vj : vp_in (nI j') 3000 := vp_in_nI (by omega) (by decide)
      have c3 : (nI (L ++ tgT t D l L.length e).length).toNatClampNeg = (L ++ tgT t D l L.length e).length := nI_clamp (by (try simp only [List.length_append, List.length_cons, List.length_nil, List.length_replicate, tg_len]) <;> omega)
      have v3 : vp_in (nI (L ++ tgT t D l L.length e).length) 4000 := vp_in_nI (by (try simp only [List.length_append, List.length_cons, List.length_nil, List.length_replicate, tg_len]) <;> omega) (by decide)
      refine S_M_turns ?_
      rw [cj, j3]
      refine ⟨vj, fun y => absurd y (by decide), fun y => absurd y (by decide), fun y => absurd y (by decide), fun y => absurd y (by decide), fun y => absurd y (by decide), fun y => absurd y (by decide), fun y => absurd y (by decide), fun y => absurd y (by decide), fun y => absurd y (by decide), fun y => absurd y (by decide), fun _ => ⟨vj, ?_⟩, fun y => absurd y (by decide), fun y => absurd y (by decide), trivial⟩
      refine vV (hl.1 d e w L L.length σ _ rfl (by omega) o3 (by omega) j6 h hL (by omega) (by omega)) fun σ1 ⟨h1, l1, f1⟩ => ?_
      refine vI (tn_lay h1 l1 (by (try simp only [List.length_append, List.length_cons, List.length_nil, List.length_replicate, tg_len]) <;> omega) (Or.inr (Or.inr rfl))) fun x2 σ2 ⟨hx2, h2, l2, f2⟩ => ⟨vj, ?_⟩
      subst hx2
      have f12 := f1.tr f2
      rw [(f12 167 j' (fkTC_no (by omega))).1]
      refine vV (hy.1 d e w _ (L.length + lnT l + 1) σ2 _ (by (try simp only [List.length_append, List.length_cons, List.length_nil, List.length_replicate, tg_len]) <;> omega) (by omega) o5 (by omega) (at_tc j8 f12) h2 l2 (by omega) (by omega)) fun σ3 ⟨h3, l3, f3⟩ => ?_
      refine vI (tn_lay h3 l3 (by (try simp only [List.length_append, List.length_cons, List.length_nil, List.length_replicate, tg_len]) <;> omega) (Or.inr (Or.inr rfl))) fun x4 σ4 ⟨hx4, h4', l4, f4⟩ => ⟨v3, vj, ?_⟩
      subst hx4
      have f14 := (f12.tr f3).tr f4
      have e125 : σ4.1 103 125 = nI (L.length + lnT l + lnT y + 2) := by
        rw [l4.1]
        exact congrArg nI (by (try simp only [List.length_append, List.length_cons, List.length_nil, List.length_replicate, tg_len]) <;> omega)
      rw [(f14 168 j' (fkTC_no (by omega))).1, c3, e125]
      obtain ⟨h5, l5, f5⟩ := tn_land (A := L ++ tgT t D l L.length e) (Z := tgT t D y (L.length + lnT l + 1) e ++ [((6 : Int32), (0 : Int32), (0 : Int32))]) (o := 5) (x := 0) (b := 0) (v := nI (L.length + lnT l + lnT y + 2)) h4' (l4.cs (by simp only [List.append_assoc, List.cons_append, List.nil_append]))
      have f15 := f14.tr f5
      refine vV (hz.1 d e w _ (L.length + lnT l + 1 + lnT y + 1) _ _ (by (try simp only [List.length_append, List.length_cons, List.length_nil, List.length_replicate, tg_len]) <;> omega) (by omega) o6 (by omega) (at_tc j9 f15) h5 l5 (by omega) (by omega)) fun σ6 ⟨h6, l6, f6⟩ => ?_
      have e126 : σ6.1 103 125 = nI (L.length + lnT l + 1 + lnT y + lnT z + 1) := by
        rw [l6.1]
        exact congrArg nI (by (try simp only [List.length_append, List.length_cons, List.length_nil, List.length_replicate, tg_len]) <;> omega)
      have c4 : (nI (L ++ tgT t D l L.length e ++ [((5 : Int32), (0 : Int32), (0 : Int32))] ++ tgT t D y (L.length + lnT l + 1) e).length).toNatClampNeg = (L ++ (tgT t D l L.length e ++ ((5 : Int32), nI (L.length + lnT l + lnT y + 2), (0 : Int32)) :: tgT t D y (L.length + lnT l + 1) e)).length := by
        rw [nI_clamp (by (try simp only [List.length_append, List.length_cons, List.length_nil, List.length_replicate, tg_len]) <;> omega)]
        (try simp only [List.length_append, List.length_cons, List.length_nil, List.length_replicate, tg_len]) <;> omega
      rw [c4, e126]
      obtain ⟨h7, l7, f7⟩ := tn_land (A := L ++ (tgT t D l L.length e ++ ((5 : Int32), nI (L.length + lnT l + lnT y + 2), (0 : Int32)) :: tgT t D y (L.length + lnT l + 1) e)) (Z := tgT t D z (L.length + lnT l + 1 + lnT y + 1) e) (o := 6) (x := 0) (b := 0) (v := nI (L.length + lnT l + 1 + lnT y + lnT z + 1)) h6 (l6.cs (by simp only [List.append_assoc, List.cons_append, List.nil_append]))
      refine ⟨vp_in_nI (by (try simp only [List.length_append, List.length_cons, List.length_nil, List.length_replicate, tg_len]) <;> omega) (by decide), h7, l7.cs ?_, (f15.tr f6).tr f7⟩
      rw [tg_9]
      show L ++ (tgT t D l L.length e ++ ((5 : Int32), nI (L.length + lnT l + lnT y + 2), (0 : Int32)) :: (tgT t D y (L.length + lnT l + 1) e ++ ((6 : Int32), nI (L.length + lnT l + 1 + lnT y + lnT z + 1), (0 : Int32)) :: tgT t D z (L.length + lnT l + 1 + lnT y + 1) e)) = _
      simp only [List.append_assoc, List.cons_append, List.nil_append]
    · obtain ⟨o1, o2, o3, o4⟩ := ok_10.mp ho
      obtain ⟨j, rfl, -, j2, j3, j4, j5, j6, j7⟩ := at_10.mp ha
      cases r with
      | leaf => exact absurd (show 3 = 1 from o4) (by decide)
      | inner k2 v u y z =>
      obtain ⟨rfl, o7, o8, o5, o6⟩ := ok_22.mp o4
      obtain ⟨j', e', -, jb, i1, i2, i3, i4, j8, j9⟩ := at_22.mp j7
      have ej : j' = j := ((nI_eq (by omega) (by omega)).mp e').symm
      subst ej
      obtain ⟨hy, hz⟩ := hxy 22 v.1 v.2.1 v.2.2.1 v.2.2.2 y z rfl
      have hd' : 2 + max (dpt l) (max (dpt y) (dpt z)) + 4 ≤ d + 1 := hd
      have hs' : sz l + (sz y + sz z) ≤ 400 := hs
      have he' : e.length + max (nD l) (max (nD y) (2 + nD z)) ≤ 1000 := he
      have hlen2 : L.length + (lnT l + (lnT y + lnT z + 1) + 1) ≤ 4000 := hlen
      obtain ⟨n1, -⟩ := nm_in o7
      obtain ⟨n2, -⟩ := nm_in o8
      have cj : (nI j').toNatClampNeg = j' := nI_clamp (by omega)
      have vj : vp_in (nI j') 3000 := vp_in_nI (by omega) (by decide)
      have c3 : (nI (L ++ tgT t D l L.length e).length).toNatClampNeg = (L ++ tgT t D l L.length e).length := nI_clamp (by (try simp only [List.length_append, List.length_cons, List.length_nil, List.length_replicate, tg_len]) <;> omega)
      have v3 : vp_in (nI (L ++ tgT t D l L.length e).length) 4000 := vp_in_nI (by (try simp only [List.length_append, List.length_cons, List.length_nil, List.length_replicate, tg_len]) <;> omega) (by decide)
      refine S_M_turns ?_
      rw [cj, j3]
      refine ⟨vj, fun y => absurd y (by decide), fun y => absurd y (by decide), fun y => absurd y (by decide), fun y => absurd y (by decide), fun y => absurd y (by decide), fun y => absurd y (by decide), fun y => absurd y (by decide), fun y => absurd y (by decide), fun y => absurd y (by decide), fun y => absurd y (by decide), fun y => absurd y (by decide), fun _ => ?_, fun y => absurd y (by decide), trivial⟩
      refine S_M_turns_430 ?_
      rw [cj]
      refine ⟨vj, ?_⟩
      refine vV (hl.1 d e w L L.length σ _ rfl (by omega) o3 (by omega) j6 h hL (by omega) (by omega)) fun σ1 ⟨h1, l1, f1⟩ => ?_
      rw [h1.2.2.1]
      refine vI (tn_lay h1 l1 (by (try simp only [List.length_append, List.length_cons, List.length_nil, List.length_replicate, tg_len]) <;> omega) (Or.inr (Or.inr rfl))) fun x2 σ2 ⟨hx2, h2, l2, f2⟩ => ⟨vj, ?_⟩
      subst hx2
      have f12 := f1.tr f2
      rw [(f12 167 j' (fkTC_no (by omega))).1]
      refine vV (hy.1 d e w _ (L.length + lnT l + 1) σ2 _ (by (try simp only [List.length_append, List.length_cons, List.length_nil, List.length_replicate, tg_len]) <;> omega) (by omega) o5 (by omega) (at_tc j8 f12) h2 l2 (by omega) (by omega)) fun σ3 ⟨h3, l3, f3⟩ => ?_
      refine vI (tn_lay h3 l3 (by (try simp only [List.length_append, List.length_cons, List.length_nil, List.length_replicate, tg_len]) <;> omega) (Or.inr (Or.inr rfl))) fun x4 σ4 ⟨hx4, h4', l4, f4⟩ => ⟨v3, vj, vj, ?_⟩
      subst hx4
      have f14 := (f12.tr f3).tr f4
      have e125 : σ4.1 103 125 = nI (L.length + lnT l + lnT y + 2) := by
        rw [l4.1]
        exact congrArg nI (by (try simp only [List.length_append, List.length_cons, List.length_nil, List.length_replicate, tg_len]) <;> omega)
      rw [(f14 172 j' (fkTC_no (by omega))).1, (f14 173 j' (fkTC_no (by omega))).1, i1, i2, c3, e125]
      obtain ⟨h5, l5, f5⟩ := tn_land (A := L ++ tgT t D l L.length e) (Z := tgT t D y (L.length + lnT l + 1) e ++ [((6 : Int32), (0 : Int32), (0 : Int32))]) (o := 10) (x := 0) (b := nI e.length) (v := nI (L.length + lnT l + lnT y + 2)) h4' (l4.cs (by simp only [List.append_assoc, List.cons_append, List.nil_append]))
      have f15 := f14.tr f5
      refine vV (k_bind (ty := 0) h5 (by omega) n1 (by decide)) fun σ6 ⟨h6, f6⟩ => ⟨vj, vj, ?_⟩
      have f16 := f15.tr f6.ck2
      rw [(f16 174 j' (fkTC_no (by omega))).1, (f16 175 j' (fkTC_no (by omega))).1, i3, i4]
      refine vV (k_bind (ty := 0) h6 (by show e.length + 1 < 1000; omega) n2 (by decide)) fun σ7 ⟨h7, f7⟩ => ⟨vj, ?_⟩
      have f17 := f16.tr f7.ck2
      rw [(f17 168 j' (fkTC_no (by omega))).1]
      refine vV (hz.1 d _ w _ (L.length + lnT l + 1 + lnT y + 1) σ7 _ (by (try simp only [List.length_append, List.length_cons, List.length_nil, List.length_replicate, tg_len]) <;> omega) (by omega) o6 (by omega) (at_tc j9 f17) h7 ((l5.ck f6).ck f7) (by omega) (by show e.length + 1 + 1 + nD z ≤ 1000; omega)) fun σ8 ⟨h8, l8, f8⟩ => ?_
      have kd := k_drop (q := [(nmT t v.2.2.1 v.2.2.2, 0), (nmT t v.1 v.2.1, 0)]) (v := σ8.1 103 117 - 2) h8 (by
        rw [h8.2.2.1, List.length_cons, List.length_cons, show (2 : Int32) = nI 2 from rfl, nI_sub (by omega)]
        exact congrArg nI (by omega))
      have e126 : σ8.1 103 125 = nI (L.length + lnT l + 1 + lnT y + lnT z + 1) := by
        rw [l8.1]
        exact congrArg nI (by (try simp only [List.length_append, List.length_cons, List.length_nil, List.length_replicate, tg_len]) <;> omega)
      have c4 : (nI (L ++ tgT t D l L.length e ++ [((10 : Int32), (0 : Int32), nI e.length)] ++ tgT t D y (L.length + lnT l + 1) e).length).toNatClampNeg = (L ++ (tgT t D l L.length e ++ ((10 : Int32), nI (L.length + lnT l + lnT y + 2), nI e.length) :: tgT t D y (L.length + lnT l + 1) e)).length := by
        rw [nI_clamp (by (try simp only [List.length_append, List.length_cons, List.length_nil, List.length_replicate, tg_len]) <;> omega)]
        (try simp only [List.length_append, List.length_cons, List.length_nil, List.length_replicate, tg_len]) <;> omega
      rw [c4, e126]
      obtain ⟨h9, l9, f9⟩ := tn_land (A := L ++ (tgT t D l L.length e ++ ((10 : Int32), nI (L.length + lnT l + lnT y + 2), nI e.length) :: tgT t D y (L.length + lnT l + 1) e)) (Z := tgT t D z (L.length + lnT l + 1 + lnT y + 1) ((nmT t v.2.2.1 v.2.2.2, 0) :: (nmT t v.1 v.2.1, 0) :: e)) (o := 6) (x := 0) (b := 0) (v := nI (L.length + lnT l + 1 + lnT y + lnT z + 1)) kd.1 ((l8.ck kd.2).cs (by simp only [List.append_assoc, List.cons_append, List.nil_append]))
      refine ⟨vp_in_nI (by (try simp only [List.length_append, List.length_cons, List.length_nil, List.length_replicate, tg_len]) <;> omega) (by decide), h9, l9.cs ?_, ((f17.tr f8).tr kd.2.ck2).tr f9⟩
      rw [tg_10]
      show L ++ (tgT t D l L.length e ++ ((10 : Int32), nI (L.length + lnT l + lnT y + 2), nI e.length) :: (tgT t D y (L.length + lnT l + 1) e ++ ((6 : Int32), nI (L.length + lnT l + 1 + lnT y + lnT z + 1), (0 : Int32)) :: tgT t D z (L.length + lnT l + 1 + lnT y + 1) ((nmT t v.2.2.1 v.2.2.2, 0) :: (nmT t v.1 v.2.1, 0) :: e))) = _
      simp only [List.append_assoc, List.cons_append, List.nil_append]
    · obtain ⟨o1, o2, o5, o3, o4⟩ := ok_11.mp ho
      obtain ⟨j, rfl, -, j2, j3, j8, j4, j5, j6, j7⟩ := at_11.mp ha
      have hs' : sz l + sz r ≤ 400 := hs
      have hd' : 2 + max (dpt l) (dpt r) + 4 ≤ d + 1 := hd
      have he' : e.length + max (nD l) (nD r) ≤ 1000 := he
      have hlen2 : L.length + (lnT l + lnT r + 1) ≤ 4000 := hlen
      have cj : (nI j).toNatClampNeg = j := nI_clamp (by omega)
      have vj : vp_in (nI j) 3000 := vp_in_nI (by omega) (by decide)
      refine S_M_turns ?_
      rw [cj, j3]
      refine ⟨vj, fun y => absurd y (by decide), fun y => absurd y (by decide), fun y => absurd y (by decide), fun y => absurd y (by decide), fun y => absurd y (by decide), fun y => absurd y (by decide), fun y => absurd y (by decide), fun y => absurd y (by decide), fun y => absurd y (by decide), fun y => absurd y (by decide), fun y => absurd y (by decide), fun y => absurd y (by decide), fun _ => ?_, trivial⟩
      refine S_M_turns_231 ?_
      rw [cj]
      refine ⟨vj, ?_⟩
      refine vV (hl.1 d e w L L.length σ _ rfl (by omega) o3 (by omega) j6 h hL (by omega) (by omega)) fun σ1 ⟨h1, l1, f1⟩ => ⟨vj, ?_⟩
      rw [(f1 167 j (fkTC_no (by omega))).1]
      refine vV (hr.1 d e w _ (L.length + lnT l) σ1 _ (by (try simp only [List.length_append, List.length_cons, List.length_nil, List.length_replicate, tg_len]) <;> omega) (by omega) o4 (by omega) (at_tc j7 f1) h1 l1 (by omega) (by omega)) fun σ2 ⟨h2, l2, f2⟩ => ⟨vj, ?_⟩
      rw [((f1.tr f2) 164 j (fkTC_no (by omega))).1, ((f1.tr f2) 176 j (fkTC_no (by omega))).1, j3, j8]
      exact ⟨fun _ => ⟨vj, fun _ => ⟨vj, vI (tn_lay h2 l2 (by (try simp only [List.length_append, List.length_cons, List.length_nil, List.length_replicate, tg_len]) <;> omega) (Or.inr (Or.inr rfl))) fun x2 σ9 ⟨_, h9, l9, f9⟩ => ⟨h9, l9.cs (by simp only [tg_11, List.append_assoc, List.cons_append, List.nil_append]), (f1.tr f2).tr f9⟩⟩, fun y => absurd y (by decide)⟩, fun y => absurd y (by decide)⟩
    · obtain ⟨o1, o2, o5, o3, o4, o6⟩ := ok_12.mp ho
      obtain ⟨j, rfl, -, j2, j3, j8, j4, j5, j6, j7⟩ := at_12.mp ha
      have hs' : sz l + sz r ≤ 400 := hs
      have hd' : 2 + max (dpt l) (dpt r) + 4 ≤ d + 1 := hd
      have he' : e.length + max (nD l) (nD r) ≤ 1000 := he
      have hlen2 : L.length + (lnT l + lnT r + 1) ≤ 4000 := hlen
      have cj : (nI j).toNatClampNeg = j := nI_clamp (by omega)
      have vj : vp_in (nI j) 3000 := vp_in_nI (by omega) (by decide)
      refine S_M_turns ?_
      rw [cj, j3]
      refine ⟨vj, fun y => absurd y (by decide), fun y => absurd y (by decide), fun y => absurd y (by decide), fun y => absurd y (by decide), fun y => absurd y (by decide), fun y => absurd y (by decide), fun y => absurd y (by decide), fun y => absurd y (by decide), fun y => absurd y (by decide), fun y => absurd y (by decide), fun y => absurd y (by decide), fun y => absurd y (by decide), fun _ => ?_, trivial⟩
      refine S_M_turns_231 ?_
      rw [cj]
      refine ⟨vj, ?_⟩
      refine vV (hl.1 d e w L L.length σ _ rfl (by omega) o3 (by omega) j6 h hL (by omega) (by omega)) fun σ1 ⟨h1, l1, f1⟩ => ⟨vj, ?_⟩
      rw [(f1 167 j (fkTC_no (by omega))).1]
      refine vV (hr.1 d e w _ (L.length + lnT l) σ1 _ (by (try simp only [List.length_append, List.length_cons, List.length_nil, List.length_replicate, tg_len]) <;> omega) (by omega) o4 (by omega) (at_tc j7 f1) h1 l1 (by omega) (by omega)) fun σ2 ⟨h2, l2, f2⟩ => ⟨vj, ?_⟩
      rw [((f1.tr f2) 164 j (fkTC_no (by omega))).1, ((f1.tr f2) 176 j (fkTC_no (by omega))).1, j3, j8]
      exact ⟨fun _ => ⟨vj, fun _ => ⟨vj, vI (tn_lay h2 l2 (by (try simp only [List.length_append, List.length_cons, List.length_nil, List.length_replicate, tg_len]) <;> omega) (Or.inr (Or.inr rfl))) fun x2 σ9 ⟨_, h9, l9, f9⟩ => ⟨h9, l9.cs (by simp only [tg_12, List.append_assoc, List.cons_append, List.nil_append]), (f1.tr f2).tr f9⟩⟩, fun y => absurd y (by decide)⟩, fun y => absurd y (by decide)⟩
  · subst hp
    obtain ⟨rfl, rfl, rfl, o4, rfl, o6, o7⟩ := ok_21.mp ho
    obtain ⟨j, rfl, -, j2, j5, j6, j7⟩ := at_21.mp ha
    have hs' : sz l + sz r ≤ 400 := hs
    have hd' : max (2 + dpt l) (dpt r) + 4 ≤ d := hd
    have he' : e.length + max (nD l) (nD r) ≤ 1000 := he
    have hlen2 : L.length + (lnT l + lnT r) ≤ 4000 := hlen
    have cj : (nI j).toNatClampNeg = j := nI_clamp (by omega)
    have vj : vp_in (nI j) 3000 := vp_in_nI (by omega) (by decide)
    refine S_M_turns_139 ?_
    rw [cj]
    refine ⟨fun y => absurd y (nI_pos (by omega)), fun _ => ⟨vj, ?_⟩⟩
    refine vV (hl.1 d e w L L.length σ _ rfl (by omega) o6 (by omega) j6 h hL (by omega) (by omega)) fun σ1 ⟨h1, l1, f1⟩ => ⟨vj, ?_⟩
    rw [(f1 167 j (fkTC_no (by omega))).1]
    exact hr.2 d e w _ (L.length + lnT l) σ1 _ v1 a b (d0 + 1) Q (by (try simp only [List.length_append, List.length_cons, List.length_nil, List.length_replicate, tg_len]) <;> omega) (by omega) o7 (by omega) (at_tc j7 f1) h1 l1 (by omega) (by omega) fun σ2 h2 l2 f2 => hQ σ2 h2 (l2.cs (by simp only [tg_21, List.append_assoc, List.cons_append, List.nil_append])) (f1.tr f2)
end TN
