/-! DEFINITIONS, PROGRAMS: the parser in the middle -/
/-- the NAME (where, size); the ARGUMENTS (where, size, TYPE); what it gives; where its E stands; the E -/
abbrev FD : Type := (Nat × Nat) × List (Nat × Nat × Nat) × Nat × Nat × Tr
section PD
variable (t : Nat → UInt8) (n : Nat)
def pTyp (s : PS) : PS × Nat := (((exK t n (decide (¬ tyV t n s.1 s.2.1 = 0)) s.1 s.2.1).1, (exK t n (decide (¬ tyV t n s.1 s.2.1 = 0)) s.1 s.2.1).2, s.2.2), tyV t n s.1 s.2.1)
def pAg : Nat → PS → PS × List (Nat × Nat × Nat)
  | 0, s => (s, [])
  | f + 1, s => if s.2.1 = none then (if (pTyp t n (eK t n 58 (eK t n 1 s))).1.2.1 = none ∧ kA t n (pTyp t n (eK t n 58 (eK t n 1 s))).1.1 = 44 ∧ f ≠ 0 then ((pAg f (nxt (pTyp t n (eK t n 58 (eK t n 1 s))).1)).1, (aA t n s.1, zA t n s.1, (pTyp t n (eK t n 58 (eK t n 1 s))).2) :: (pAg f (nxt (pTyp t n (eK t n 58 (eK t n 1 s))).1)).2) else ((pTyp t n (eK t n 58 (eK t n 1 s))).1, [(aA t n s.1, zA t n s.1, (pTyp t n (eK t n 58 (eK t n 1 s))).2)])) else (s, [])
def pDf (s : PS) : PS × FD :=
  let s1 := eK t n 4 s
  let r2 := pAg t n 4 (eK t n 40 (eK t n 1 s1))
  let p3 := pTyp t n (eK t n 58 (eK t n 41 r2.1))
  let s4 := eK t n 61 p3.1
  let r5 := pE t n 30 s4
  (eK t n 59 r5.1, ((aA t n s1.1, zA t n s1.1), r2.2, p3.2, aA t n s4.1, r5.2))
def pPg : Nat → PS → List FD → PS × List FD
  | 0, s, D => (if s.2.1 = none ∧ ¬ kA t n s.1 = 0 then ft t n s else s, D)
  | f + 1, s, D => if s.2.1 = none ∧ (D = [] ∨ ¬ kA t n s.1 = 0) then pPg f (pDf t n s).1 (D ++ [(pDf t n s).2]) else (s, D)
/-- what is so of a DEFINITION that was read -/
def okD (q : FD) : Prop := nmOK t n q.1.1 q.1.2 ∧ (1 ≤ q.2.1.length ∧ q.2.1.length ≤ 4) ∧ (∀ a ∈ q.2.1, nmOK t n a.1 a.2.1 ∧ 1 ≤ a.2.2 ∧ a.2.2 ≤ 3) ∧ (1 ≤ q.2.2.1 ∧ q.2.2.1 ≤ 3) ∧ q.2.2.2.1 ≤ 4000 ∧ okT t n q.2.2.2.2 0 0 0 0 ∧ hR q.2.2.2.2 ≤ 180 ∧ nD q.2.2.2.2 ≤ 60 ∧ pD q.2.2.2.2 ≤ 30
end PD
def szD : List FD → Nat
  | [] => 0
  | q :: D => sz q.2.2.2.2 + szD D
theorem szD_app : ∀ (D D2 : List FD), szD (D ++ D2) = szD D + szD D2
  | [], D2 => by show szD D2 = 0 + szD D2; omega
  | q :: D, D2 => by show sz q.2.2.2.2 + szD (D ++ D2) = sz q.2.2.2.2 + szD D + szD D2; rw [szD_app D D2]; omega
section GDf
variable {t : Nat → UInt8} {n : Nat}
theorem pTyp_inv {s : PS} (h : (pTyp t n s).1.2.1 = none) : s.2.1 = none ∧ (pTyp t n s).1 = nxt s ∧ 1 ≤ (pTyp t n s).2 ∧ (pTyp t n s).2 ≤ 3 := by
  have h2 : (exK t n (decide (¬ tyV t n s.1 s.2.1 = 0)) s.1 s.2.1).2 = none := h
  by_cases c : s.2.1 = none ∧ decide (¬ tyV t n s.1 s.2.1 = 0) = true
  · have c2 := of_decide_eq_true c.2
    refine ⟨c.1, ?_, ?_⟩
    · unfold pTyp nxt
      rw [show exK t n (decide (¬ tyV t n s.1 s.2.1 = 0)) s.1 s.2.1 = (s.1 + 1, none) from if_pos c]
    · show 1 ≤ tyV t n s.1 s.2.1 ∧ tyV t n s.1 s.2.1 ≤ 3
      refine ⟨by omega, ?_⟩
      unfold tyV
      repeat' split
      all_goals omega
  · rw [show exK t n (decide (¬ tyV t n s.1 s.2.1 = 0)) s.1 s.2.1 = (s.1, some (s.2.1.getD (tkAt t n s.1).2.1)) from if_neg c] at h2
    cases h2
theorem pTyp_a {s : PS} : (pTyp t n s).1.2.2 = s.2.2 := rfl
theorem pAg_inv : ∀ (f : Nat) (s : PS), (pAg t n f s).1.2.1 = none → s.2.1 = none ∧ (pAg t n f s).1.2.2 = s.2.2 ∧ (f ≠ 0 → 1 ≤ (pAg t n f s).2.length) ∧ (pAg t n f s).2.length ≤ f ∧ ∀ a ∈ (pAg t n f s).2, nmOK t n a.1 a.2.1 ∧ 1 ≤ a.2.2 ∧ a.2.2 ≤ 3
  | 0, s => fun h => ⟨h, rfl, fun z => absurd rfl z, Nat.le_refl _, fun a ha => by cases ha⟩
  | f + 1, s => by
    rw [pAg]
    by_cases c : s.2.1 = none
    · rw [if_pos c]
      generalize ep : pTyp t n (eK t n 58 (eK t n 1 s)) = p
      have ea : p.1.2.2 = s.2.2 := by rw [← ep]; rfl
      by_cases c2 : p.1.2.1 = none ∧ kA t n p.1.1 = 44 ∧ f ≠ 0
      · rw [if_pos c2]
        intro h
        obtain ⟨-, a2, a3, a4, a5⟩ := pAg_inv f (nxt p.1) h
        have hp := c2.1
        rw [← ep] at hp
        obtain ⟨p1, p2, p3, p4⟩ := pTyp_inv hp
        obtain ⟨q1, -, -⟩ := eK_inv p1
        obtain ⟨-, q2, -⟩ := eK_inv q1
        refine ⟨c, a2.trans ea, fun _ => by simp, by simpa using a4, fun a ha => ?_⟩
        rcases List.mem_cons.mp ha with rfl | ha
        · exact ⟨nm_of q2, by rw [← ep]; exact ⟨p3, p4⟩⟩
        · exact a5 a ha
      · rw [if_neg c2]
        intro h
        have hp : p.1.2.1 = none := h
        rw [← ep] at hp
        obtain ⟨p1, p2, p3, p4⟩ := pTyp_inv hp
        obtain ⟨q1, -, -⟩ := eK_inv p1
        obtain ⟨-, q2, -⟩ := eK_inv q1
        refine ⟨c, ea, fun _ => by simp, by simp, fun a ha => ?_⟩
        rcases List.mem_cons.mp ha with rfl | ha
        · exact ⟨nm_of q2, by rw [← ep]; exact ⟨p3, p4⟩⟩
        · cases ha
    · rw [if_neg c]
      exact fun h => absurd h c
theorem pDf_inv (hn : n ≤ 4000) {s : PS} (h : (pDf t n s).1.2.1 = none) : s.2.1 = none ∧ okD t n (pDf t n s).2 ∧ s.2.2 < (pDf t n s).1.2.2 ∧ (pDf t n s).1.2.2 ≤ 400 ∧ s.2.2 + sz (pDf t n s).2.2.2.2.2 ≤ (pDf t n s).1.2.2 := by
  unfold pDf at h ⊢
  simp only at h ⊢
  obtain ⟨h1, -, -⟩ := eK_inv h
  have G := Gd_E (t := t) hn 30 _ h1
  obtain ⟨g1, g2, g3, g4, g5, g6, g7, g8⟩ := G
  obtain ⟨h2, -, -⟩ := eK_inv g1
  obtain ⟨h3, -, h4, h5⟩ := pTyp_inv h2
  obtain ⟨h6, -, -⟩ := eK_inv h3
  obtain ⟨h7, -, -⟩ := eK_inv h6
  obtain ⟨a1, a2, a3, a4, a5⟩ := pAg_inv 4 _ h7
  obtain ⟨b1, -, -⟩ := eK_inv a1
  obtain ⟨b2, k2, -⟩ := eK_inv b1
  obtain ⟨b3, -, -⟩ := eK_inv b2
  have ea : (eK t n 61 (pTyp t n (eK t n 58 (eK t n 41 (pAg t n 4 (eK t n 40 (eK t n 1 (eK t n 4 s)))).1))).1).2.2 = s.2.2 := a2
  rw [ea] at g2 g4
  exact ⟨b3, ⟨nm_of k2, ⟨a3 (by decide), a4⟩, a5, ⟨h4, h5⟩, Nat.le_trans (aA_le _) hn, g5, g6, g7, g8⟩, g2, g3, g4⟩
theorem pPg_inv (hn : n ≤ 4000) : ∀ (f : Nat) (s : PS) (D : List FD), (pPg t n f s D).1.2.1 = none → (s.2.1 = none → (∀ q ∈ D, okD t n q) ∧ szD D ≤ s.2.2 ∧ s.2.2 ≤ 400 ∧ D.length + f ≤ 20) → (D ≠ [] ∨ f ≠ 0) → s.2.1 = none ∧ (∀ q ∈ (pPg t n f s D).2, okD t n q) ∧ szD (pPg t n f s D).2 ≤ 400 ∧ (pPg t n f s D).2.length ≤ 20 ∧ (pPg t n f s D).2 ≠ []
  | 0, s, D => by
    rw [pPg]
    by_cases c : s.2.1 = none ∧ ¬ kA t n s.1 = 0
    · rw [if_pos c]; intro h; cases h
    · rw [if_neg c]
      intro h g hd
      obtain ⟨g1, g2, g3, g4⟩ := g h
      exact ⟨h, g1, by show szD D ≤ 400; omega, g4, hd.resolve_right fun z => z rfl⟩
  | f + 1, s, D => by
    rw [pPg]
    by_cases c : s.2.1 = none ∧ (D = [] ∨ ¬ kA t n s.1 = 0)
    · rw [if_pos c]
      intro h g hd
      obtain ⟨g1, g2, g3, g4⟩ := g c.1
      have r := pPg_inv hn f (pDf t n s).1 (D ++ [(pDf t n s).2]) h (fun z => ?_) (Or.inl (by simp))
      · exact ⟨c.1, r.2⟩
      · obtain ⟨-, b2, b3, b4, b5⟩ := pDf_inv hn z
        refine ⟨fun q hq => ?_, ?_, b4, ?_⟩
        · rcases List.mem_append.mp hq with hq | hq
          · exact g1 q hq
          · rw [List.mem_singleton.mp hq]; exact b2
        · rw [szD_app]
          show szD D + (sz (pDf t n s).2.2.2.2.2 + 0) ≤ (pDf t n s).1.2.2
          omega
        · rw [List.length_append]
          show D.length + 1 + f ≤ 20
          omega
    · rw [if_neg c]
      intro h g hd
      obtain ⟨g1, g2, g3, g4⟩ := g h
      refine ⟨h, g1, by show szD D ≤ 400; omega, by show D.length ≤ 20; omega, fun z => c ⟨h, Or.inl z⟩⟩
/-- an E is not longer than six of each ATOM -/
theorem ln_sz : ∀ (T : Tr) (m a z k : Nat), okT t n T m a z k → (m = 0 → ln T + 5 ≤ 6 * sz T) ∧ (m = 1 → ln T ≤ 6 * sz T) ∧ (m = 2 → ln T + 9 ≤ 6 * sz T) ∧ (m = 3 → ln T + 6 ≤ 6 * sz T) := by
  refine tr_ind (fun m a z k h => ?_) (fun kd a b c d l r hl hr _ m a0 z0 k0 h => ?_)
  · have : m = 1 := h
    subst this
    exact ⟨fun z => by omega, fun _ => Nat.le_refl _, fun z => by omega, fun z => by omega⟩
  · refine ⟨fun e => ?_, fun e => ?_, fun e => ?_, fun e => ?_⟩
    · subst e
      obtain ⟨k2, _, _, _, _, _, _, e2, hk⟩ := ok_k h
      have ek : kd = k2 := by cases e2; rfl
      have hk' : kd ≤ 12 := by omega
      rcases (show kd = 0 ∨ kd = 1 ∨ kd = 2 ∨ kd = 3 ∨ kd = 4 ∨ kd = 5 ∨ kd = 6 ∨ kd = 7 ∨ kd = 8 ∨ kd = 9 ∨ kd = 10 ∨ kd = 11 ∨ kd = 12 by omega) with rfl | rfl | rfl | rfl | rfl | rfl | rfl | rfl | rfl | rfl | rfl | rfl | rfl
      · exact Nat.le_refl _
      · obtain ⟨o1, o2, o3, o4, o5⟩ := ok_1.mp h
        have := (hl _ _ _ _ o4).1 rfl
        show ln l + 1 + a % 2 + 5 ≤ 6 * (a + sz l)
        omega
      · exact Nat.le_refl _
      · obtain ⟨o1, o2, o3, o4, o5⟩ := ok_3.mp h
        have := (hl _ _ _ _ o4).2.1 rfl
        show ln l + 1 + 5 ≤ 6 * (1 + sz l)
        omega
      · exact Nat.le_refl _
      · exact Nat.le_refl _
      · obtain ⟨o1, o2, o3, o4⟩ := ok_6.mp h
        have := (hl _ _ _ _ o3).1 rfl
        have := (hr _ _ _ _ o4).1 rfl
        show ln l + ln r + 3 + 5 ≤ 6 * (1 + sz l + sz r)
        omega
      · obtain ⟨o1, o2, o3, o4⟩ := ok_7.mp h
        have := (hl _ _ _ _ o3).1 rfl
        have := (hr _ _ _ _ o4).1 rfl
        show ln l + ln r + 3 + 5 ≤ 6 * (1 + sz l + sz r)
        omega
      · obtain ⟨o1, o3, o4⟩ := ok_8.mp h
        have := (hl _ _ _ _ o3).1 rfl
        have := (hr _ _ _ _ o4).1 rfl
        show ln l + ln r + 2 + 5 ≤ 6 * (sz l + sz r)
        omega
      · obtain ⟨o1, o2, o3, o4⟩ := ok_9.mp h
        have := (hl _ _ _ _ o3).1 rfl
        have := (hr _ _ _ _ o4).2.2.1 rfl
        show ln l + ln r + 3 + 5 ≤ 6 * (sz l + sz r)
        omega
      · obtain ⟨o1, o2, o3, o4⟩ := ok_10.mp h
        have := (hl _ _ _ _ o3).1 rfl
        have := (hr _ _ _ _ o4).2.2.2 rfl
        show ln l + ln r + 4 + 5 ≤ 6 * (sz l + sz r)
        omega
      · obtain ⟨o1, o2, o5, o3, o4⟩ := ok_11.mp h
        have := (hl _ _ _ _ o3).1 rfl
        have := (hr _ _ _ _ o4).1 rfl
        show ln l + ln r + 3 + 5 ≤ 6 * (sz l + sz r)
        omega
      · obtain ⟨o1, o2, o5, o3, o4, o6⟩ := ok_12.mp h
        have := (hl _ _ _ _ o3).1 rfl
        have := (hr _ _ _ _ o4).1 rfl
        show ln l + ln r + 2 + 5 ≤ 6 * (sz l + sz r)
        omega
    · subst e
      obtain ⟨rfl, -, -, -, -, o3, o4⟩ := ok_21.mp h
      have := (hl _ _ _ _ o3).1 rfl
      have := (hr _ _ _ _ o4).2.1 rfl
      show ln l + ln r + 1 ≤ 6 * (sz l + sz r)
      omega
    · subst e
      obtain ⟨rfl, o3, o4⟩ := ok_20.mp h
      have := (hl _ _ _ _ o3).1 rfl
      have := (hr _ _ _ _ o4).1 rfl
      show ln l + ln r + 1 + 9 ≤ 6 * (sz l + sz r)
      omega
    · subst e
      obtain ⟨rfl, -, -, o3, o4⟩ := ok_22.mp h
      have := (hl _ _ _ _ o3).1 rfl
      have := (hr _ _ _ _ o4).1 rfl
      show ln l + ln r + 4 + 6 ≤ 6 * (sz l + sz r)
      omega
end GDf
