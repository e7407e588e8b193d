/-! THE REFERENCE's turns -/
/-- what a turn is, its two numbers -/
abbrev tE : Type := Int32 × Int32 × Int32
/-- how many turns -/
def lnT : Tr → Nat
  | .leaf => 0
  | .inner k (a, _, _, _) _ l r => if k = 0 ∨ k = 2 ∨ k = 4 ∨ k = 5 then 1 else if k = 1 then lnT l + a else if k = 3 then lnT l + 1 else if k = 21 then lnT l + lnT r else lnT l + lnT r + 1
def lnTL : Tr → Nat
  | .leaf => 0
  | .inner _ _ _ l _ => lnT l
section TG
variable (t : Nat → UInt8) (D : List FD)
/-- the turns of a tree, from place p on, with these NAMES around -/
def tgT : Tr → Nat → List (List Nat × Nat) → List tE
  | .leaf, _, _ => []
  | .inner k (a, b, c, d) _ l r, p, e =>
    if k = 0 then [(0, nI a, 0)]
    else if k = 1 then tgT l p e ++ List.replicate a (3, 0, 0)
    else if k = 2 then [(1, onI (plc e (nmT t a b)), 0)]
    else if k = 3 then tgT l p e ++ [(8, onI (fnI t D (nmT t a b) 0), 0)]
    else if k = 4 then [(0, onI (fnI t D (nmT t a b) 0), 0)]
    else if k = 5 then [(0, -1, 0)]
    else if k = 6 then tgT l p e ++ (tgT r (p + lnT l) e ++ [(7, 0, 0)])
    else if k = 7 then tgT l p e ++ (tgT r (p + lnT l) e ++ [(9, 0, 0)])
    else if k = 8 then tgT l p e ++ (2, nI e.length, 0) :: tgT r (p + lnT l + 1) ((nmT t a b, 0) :: e)
    else if k = 9 then tgT l p e ++ (5, nI (p + lnT l + lnTL r + 2), 0) :: tgT r (p + lnT l + 1) e
    else if k = 10 then tgT l p e ++ (10, nI (p + lnT l + lnTL r + 2), nI e.length) :: tgT r (p + lnT l + 1) e
    else if k = 20 then tgT l p e ++ (6, nI (p + lnT l + lnT r + 1), 0) :: tgT r (p + lnT l + 1) e
    else if k = 21 then tgT l p e ++ tgT r (p + lnT l) e
    else if k = 22 then tgT l p e ++ (6, nI (p + lnT l + lnT r + 1), 0) :: tgT r (p + lnT l + 1) ((nmT t c d, 0) :: (nmT t a b, 0) :: e)
    else tgT l p e ++ (tgT r (p + lnT l) e ++ [(4, nI (sM a), 0)])
end TG
section TGE
variable {t : Nat → UInt8} {D : List FD} {a b c d p : Nat} {l r : Tr} {e : List (List Nat × Nat)}
theorem tg_0 : tgT t D (nd 0 a b c d l r) p e = [(0, nI a, 0)] := rfl
theorem tg_1 : tgT t D (nd 1 a b c d l r) p e = tgT t D l p e ++ List.replicate a (3, 0, 0) := rfl
theorem tg_2 : tgT t D (nd 2 a b c d l r) p e = [(1, onI (plc e (nmT t a b)), 0)] := rfl
theorem tg_3 : tgT t D (nd 3 a b c d l r) p e = tgT t D l p e ++ [(8, onI (fnI t D (nmT t a b) 0), 0)] := rfl
theorem tg_4 : tgT t D (nd 4 a b c d l r) p e = [(0, onI (fnI t D (nmT t a b) 0), 0)] := rfl
theorem tg_5 : tgT t D (nd 5 a b c d l r) p e = [(0, -1, 0)] := rfl
theorem tg_6 : tgT t D (nd 6 a b c d l r) p e = tgT t D l p e ++ (tgT t D r (p + lnT l) e ++ [(7, 0, 0)]) := rfl
theorem tg_7 : tgT t D (nd 7 a b c d l r) p e = tgT t D l p e ++ (tgT t D r (p + lnT l) e ++ [(9, 0, 0)]) := rfl
theorem tg_8 : tgT t D (nd 8 a b c d l r) p e = tgT t D l p e ++ (2, nI e.length, 0) :: tgT t D r (p + lnT l + 1) ((nmT t a b, 0) :: e) := rfl
theorem tg_9 : tgT t D (nd 9 a b c d l r) p e = tgT t D l p e ++ (5, nI (p + lnT l + lnTL r + 2), 0) :: tgT t D r (p + lnT l + 1) e := rfl
theorem tg_10 : tgT t D (nd 10 a b c d l r) p e = tgT t D l p e ++ (10, nI (p + lnT l + lnTL r + 2), nI e.length) :: tgT t D r (p + lnT l + 1) e := rfl
theorem tg_11 : tgT t D (nd 11 a b c d l r) p e = tgT t D l p e ++ (tgT t D r (p + lnT l) e ++ [(4, nI (sM a), 0)]) := rfl
theorem tg_12 : tgT t D (nd 12 a b c d l r) p e = tgT t D l p e ++ (tgT t D r (p + lnT l) e ++ [(4, nI (sM a), 0)]) := rfl
theorem tg_20 : tgT t D (nd 20 a b c d l r) p e = tgT t D l p e ++ (6, nI (p + lnT l + lnT r + 1), 0) :: tgT t D r (p + lnT l + 1) e := rfl
theorem tg_21 : tgT t D (nd 21 a b c d l r) p e = tgT t D l p e ++ tgT t D r (p + lnT l) e := rfl
theorem tg_22 : tgT t D (nd 22 a b c d l r) p e = tgT t D l p e ++ (6, nI (p + lnT l + lnT r + 1), 0) :: tgT t D r (p + lnT l + 1) ((nmT t c d, 0) :: (nmT t a b, 0) :: e) := rfl
end TGE
theorem tg_len {t : Nat → UInt8} {D : List FD} : ∀ (T : Tr) (p : Nat) (e : List (List Nat × Nat)), (tgT t D T p e).length = lnT T := by
  refine tr_ind (fun _ _ => rfl) (fun k a b c d l r hl hr _ p e => ?_)
  rcases k_or k with rfl | rfl | rfl | rfl | rfl | rfl | rfl | rfl | rfl | rfl | rfl | rfl | rfl | rfl | rfl | q
  · rfl
  · rw [tg_1, List.length_append, hl, List.length_replicate]; rfl
  · rfl
  · rw [tg_3, List.length_append, hl]; rfl
  · rfl
  · rw [tg_6, List.length_append, List.length_append, hl, hr]; rfl
  · rw [tg_7, List.length_append, List.length_append, hl, hr]; rfl
  · rw [tg_8, List.length_append, List.length_cons, hl, hr]; rfl
  · rw [tg_9, List.length_append, List.length_cons, hl, hr]; rfl
  · rw [tg_10, List.length_append, List.length_cons, hl, hr]; rfl
  · rw [tg_11, List.length_append, List.length_append, hl, hr]; rfl
  · rw [tg_12, List.length_append, List.length_append, hl, hr]; rfl
  · rw [tg_20, List.length_append, List.length_cons, hl, hr]; rfl
  · rw [tg_21, List.length_append, hl, hr]; rfl
  · rw [tg_22, List.length_append, List.length_cons, hl, hr]; rfl
  · obtain ⟨e0, e1, e2, e3, e4, e6, e7, e8, e9, e10, e11, e12, e20, e21, e22⟩ := q
    by_cases c : k = 5
    · subst c; rfl
    · unfold nd tgT lnT
      rw [if_neg e0, if_neg e1, if_neg e2, if_neg e3, if_neg e4, if_neg c, if_neg e6, if_neg e7, if_neg e8, if_neg e9, if_neg e10, if_neg e20, if_neg e21, if_neg e22, if_neg (by omega), if_neg e1, if_neg e3, if_neg e21, List.length_append, List.length_append, hl, hr]
      rfl
/-- the turns laid so far -/
def TM (L : List tE) (σ : fkS) : Prop := σ.1 103 125 = nI L.length ∧ L.length ≤ 4000 ∧ ∀ i q, L[i]? = some q → σ.1 180 i = q.1 ∧ (q.1 = 7 ∨ q.1 = 9 ∨ σ.1 181 i = q.2.1) ∧ σ.1 182 i = q.2.2
def fkTL (c j : Nat) : Bool := (Nat.beq c 103 && Nat.beq j 125) || (Nat.ble 180 c && Nat.ble c 182)
def fkTC (c j : Nat) : Bool := fkCK c j || fkTL c j
section TL
variable {t : Nat → UInt8} {n d mm : Nat} {D : List FD} {e : List (List Nat × Nat)} {w : Option Nat} {σ σ' : fkS} {L : List tE}
theorem fkTL_in {c j : Nat} (h : fkTL c j = true) : (c = 103 ∧ j = 125) ∨ (180 ≤ c ∧ c ≤ 182) := by
  unfold fkTL at h
  simp only [Bool.or_eq_true, Bool.and_eq_true, Nat.beq_eq, Nat.ble_eq] at h
  exact h
theorem fkTL_no {c j : Nat} (h : c ≤ 179 ∧ ¬ (c = 103 ∧ j = 125)) : fkTL c j = false := by
  cases e : fkTL c j
  · rfl
  · have := fkTL_in e
    omega
theorem fkTC_no {c j : Nat} (h : (154 ≤ c ∧ c ≤ 176) ∨ (c = 103 ∧ (j = 79 ∨ j = 97))) : fkTC c j = false := by
  unfold fkTC
  rw [fkCK_no h, fkTL_no (by omega)]
  rfl
theorem Fr.ck2 (h : Fr fkCK σ σ') : Fr fkTC σ σ' := h.mono fun c j q => by unfold fkTC; rw [q]; rfl
theorem Fr.tl2 (h : Fr fkTL σ σ') : Fr fkTC σ σ' := h.mono fun c j q => by unfold fkTC; rw [q, Bool.or_true]
theorem at_tc {T : Tr} {m : Nat} {x : Int32} {lo hi : Nat} (h : At T m x lo hi σ) (hf : Fr fkTC σ σ') : At T m x lo hi σ' := At.fr (Nat.le_refl _) (Nat.le_refl _) (fun c j a1 a2 _ _ => (hf c j (fkTC_no (by omega))).1) T m x h
theorem CM.tl (h : CM t n D mm e w σ) (hf : Fr fkTL σ σ') : CM t n D mm e w σ' := by
  obtain ⟨⟨h1, h2, h3, h4, h5, h6⟩, g2, g3, g4, g5, g6, g7⟩ := h
  refine ⟨⟨⟨(hf 103 79 (fkTL_no (by omega))).1.trans h1.1, fun k hk => (hf 154 k (fkTL_no (by omega))).1.trans (h1.2.1 k hk), h1.2.2⟩, fun i q hq => ?_, h3, (hf 103 97 (fkTL_no (by omega))).1.trans h4, h5, h6⟩, fun i q hq => ?_, (hf 103 117 (fkTL_no (by omega))).1.trans g3, g4, g5, (hf 103 81 (fkTL_no (by omega))).1.trans g6, g7⟩
  · obtain ⟨a1, a2, a3, a4, a5, a6, a7, a8⟩ := h2 i q hq
    refine ⟨(hf 155 i (fkTL_no (by omega))).1.trans a1, (hf 156 i (fkTL_no (by omega))).1.trans a2, (hf 157 i (fkTL_no (by omega))).1.trans a3, (hf 158 i (fkTL_no (by omega))).1.trans a4, (hf 160 i (fkTL_no (by omega))).1.trans a5, a6, fun k a ha => ?_, ?_⟩
    · obtain ⟨b1, b2, b3⟩ := a7 k a ha
      exact ⟨(hf 161 _ (fkTL_no (by omega))).1.trans b1, (hf 162 _ (fkTL_no (by omega))).1.trans b2, (hf 163 _ (fkTL_no (by omega))).1.trans b3⟩
    · rw [(hf 159 i (fkTL_no (by omega))).1]
      exact at_tc a8 hf.tl2
  · obtain ⟨a, z, b1, b2, b3, b4, b5⟩ := g2 i q hq
    exact ⟨a, z, (hf 177 i (fkTL_no (by omega))).1.trans b1, (hf 178 i (fkTL_no (by omega))).1.trans b2, b3, b4, (hf 179 i (fkTL_no (by omega))).1.trans b5⟩
theorem TM.ck (h : TM L σ) (hf : Fr fkCK σ σ') : TM L σ' := by
  refine ⟨(hf 103 125 rfl).1.trans h.1, h.2.1, fun i q hq => ?_⟩
  obtain ⟨a1, a2, a3⟩ := h.2.2 i q hq
  rw [(hf 180 i rfl).1, (hf 181 i rfl).1, (hf 182 i rfl).1]
  exact ⟨a1, a2, a3⟩
/-- a turn is laid -/
theorem tn_lay {o a a2 b : Int32} (h : CM t n D mm e w σ) (hL : TM L σ) (hl : L.length < 4000) (ha : o = 7 ∨ o = 9 ∨ a = a2) : Ci d 361 [.ref 103, .int o, .int a, .int b] σ (fun x σ' => x = nI L.length ∧ CM t n D mm e w σ' ∧ TM (L ++ [(o, a2, b)]) σ' ∧ Fr fkTC σ σ') := by
  obtain ⟨l1, l2, l3⟩ := hL
  have ck : (nI L.length).toNatClampNeg = L.length := nI_clamp (by omega)
  have vi : vp_in (nI L.length) 4000 := vp_in_nI hl (by decide)
  refine S_M_lays ?_
  rw [l1, ck, (nI_succ L.length).symm]
  have f0 : Fr fkTL σ (sI (sI (sI (sI σ 180 L.length o) 181 L.length a) 182 L.length b) 103 125 (nI (L.length + 1))) := (((Fr.rf.sI (by unfold fkTL; simp)).sI (by unfold fkTL; simp)).sI (by unfold fkTL; simp)).sI rfl
  have r : ∀ i, i ≠ L.length → (sI (sI (sI (sI σ 180 L.length o) 181 L.length a) 182 L.length b) 103 125 (nI (L.length + 1))).1 180 i = σ.1 180 i ∧ (sI (sI (sI (sI σ 180 L.length o) 181 L.length a) 182 L.length b) 103 125 (nI (L.length + 1))).1 181 i = σ.1 181 i ∧ (sI (sI (sI (sI σ 180 L.length o) 181 L.length a) 182 L.length b) 103 125 (nI (L.length + 1))).1 182 i = σ.1 182 i := fun i hi =>
    ⟨(congrFun (sI_o (by decide)) i).trans ((congrFun (sI_o (by decide)) i).trans ((congrFun (sI_o (by decide)) i).trans (sI_so hi))), (congrFun (sI_o (by decide)) i).trans ((congrFun (sI_o (by decide)) i).trans ((sI_so hi).trans (congrFun (sI_o (by decide)) i))), (congrFun (sI_o (by decide)) i).trans ((sI_so hi).trans ((congrFun (sI_o (by decide)) i).trans (congrFun (sI_o (by decide)) i)))⟩
  have s : (sI (sI (sI (sI σ 180 L.length o) 181 L.length a) 182 L.length b) 103 125 (nI (L.length + 1))).1 180 L.length = o ∧ (sI (sI (sI (sI σ 180 L.length o) 181 L.length a) 182 L.length b) 103 125 (nI (L.length + 1))).1 181 L.length = a ∧ (sI (sI (sI (sI σ 180 L.length o) 181 L.length a) 182 L.length b) 103 125 (nI (L.length + 1))).1 182 L.length = b :=
    ⟨(congrFun (sI_o (by decide)) _).trans ((congrFun (sI_o (by decide)) _).trans ((congrFun (sI_o (by decide)) _).trans sI_ss)), (congrFun (sI_o (by decide)) _).trans ((congrFun (sI_o (by decide)) _).trans sI_ss), (congrFun (sI_o (by decide)) _).trans sI_ss⟩
  have r125 : (sI (sI (sI (sI σ 180 L.length o) 181 L.length a) 182 L.length b) 103 125 (nI (L.length + 1))).1 103 125 = nI (L.length + 1) := sI_ss
  generalize sI (sI (sI (sI σ 180 L.length o) 181 L.length a) 182 L.length b) 103 125 (nI (L.length + 1)) = σ1 at f0 r s r125 ⊢
  have e1 : nI (L.length + 1) - 1 = nI L.length := by
    rw [show (1 : Int32) = nI 1 from rfl, nI_sub (by omega), Nat.add_sub_cancel]
  refine ⟨vi, vi, vi, e1, h.tl f0, ⟨?_, ?_, fun i q hq => ?_⟩, f0.tl2⟩
  · rw [r125, List.length_append]; rfl
  · rw [List.length_append]; exact hl
  · rcases Nat.lt_or_ge i L.length with c | c
    · rw [List.getElem?_append_left c] at hq
      obtain ⟨r1, r2, r3⟩ := r i (by omega)
      rw [r1, r2, r3]
      exact l3 i q hq
    · have hi := (List.getElem?_eq_some_iff.mp hq).1
      rw [List.length_append] at hi
      have e2 : [(o, a2, b)].length = 1 := rfl
      rw [e2] at hi
      have hi2 : i = L.length := by omega
      subst hi2
      rw [mid_a] at hq
      have := Option.some.inj hq
      subst this
      refine ⟨s.1, ?_, s.2.2⟩
      rw [s.2.1]
      exact ha
/-- a way lands -/
theorem tn_land {A Z : List tE} {o x b v : Int32} (h : CM t n D mm e w σ) (hL : TM (A ++ (o, x, b) :: Z) σ) : CM t n D mm e w (sI σ 181 A.length v) ∧ TM (A ++ (o, v, b) :: Z) (sI σ 181 A.length v) ∧ Fr fkTC σ (sI σ 181 A.length v) := by
  obtain ⟨l1, l2, l3⟩ := hL
  have f0 : Fr fkTL σ (sI σ 181 A.length v) := Fr.rf.sI (by unfold fkTL; simp)
  have le : (A ++ (o, v, b) :: Z).length = (A ++ (o, x, b) :: Z).length := by simp only [List.length_append, List.length_cons]
  refine ⟨h.tl f0, ⟨?_, ?_, fun i q hq => ?_⟩, f0.tl2⟩
  · rw [le]; exact (congrFun (sI_o (by decide)) _).trans l1
  · rw [le]; exact l2
  · by_cases c : i = A.length
    · subst c
      rw [mid_a] at hq
      have := Option.some.inj hq
      subst this
      obtain ⟨a1, -, a3⟩ := l3 A.length (o, x, b) mid_a
      exact ⟨(congrFun (sI_o (by decide)) _).trans a1, Or.inr (Or.inr sI_ss), (congrFun (sI_o (by decide)) _).trans a3⟩
    · have hq' : (A ++ (o, x, b) :: Z)[i]? = some q := by
        rcases Nat.lt_or_ge i A.length with c1 | c1
        · rw [List.getElem?_append_left c1] at hq ⊢
          exact hq
        · rw [List.getElem?_append_right c1] at hq ⊢
          obtain ⟨j, hj⟩ : ∃ j, i - A.length = j + 1 := ⟨i - A.length - 1, by omega⟩
          rw [hj] at hq ⊢
          exact hq
      obtain ⟨a1, a2, a3⟩ := l3 i q hq'
      rw [sI_so c]
      exact ⟨(congrFun (sI_o (by decide)) _).trans a1, a2, (congrFun (sI_o (by decide)) _).trans a3⟩
end TL
theorem lnT_sz {t : Nat → UInt8} {n : Nat} : ∀ (T : Tr) (m a z k : Nat), okT t n T m a z k → (m = 0 → lnT T + 2 ≤ 3 * sz T) ∧ (m = 1 → lnT T ≤ 3 * sz T) ∧ (m = 2 → lnT T + 3 ≤ 3 * sz T) ∧ (m = 3 → lnT T + 3 ≤ 3 * sz T) := by
  refine tr_ind (fun m a z k h => ?_) (fun kd a b c d l r hl hr _ m a0 z0 k0 h => ?_)
  · have : m = 1 := h
    subst this
    exact ⟨fun z => by omega, fun _ => Nat.le_refl _, fun z => by omega, fun z => by omega⟩
  · refine ⟨fun e => ?_, fun e => ?_, fun e => ?_, fun e => ?_⟩
    · subst e
      obtain ⟨k2, _, _, _, _, _, _, e2, hk⟩ := ok_k h
      have ek : kd = k2 := by cases e2; rfl
      have hk' : kd ≤ 12 := by omega
      rcases (show kd = 0 ∨ kd = 1 ∨ kd = 2 ∨ kd = 3 ∨ kd = 4 ∨ kd = 5 ∨ kd = 6 ∨ kd = 7 ∨ kd = 8 ∨ kd = 9 ∨ kd = 10 ∨ kd = 11 ∨ kd = 12 by omega) with rfl | rfl | rfl | rfl | rfl | rfl | rfl | rfl | rfl | rfl | rfl | rfl | rfl
      · obtain ⟨-, -, rfl, rfl⟩ := ok_0.mp h
        exact Nat.le_refl _
      · obtain ⟨o1, o2, o3, o4, o5⟩ := ok_1.mp h
        have := (hl _ _ _ _ o4).1 rfl
        show lnT l + a + 2 ≤ 3 * (a + sz l)
        omega
      · obtain ⟨-, rfl, rfl⟩ := ok_2.mp h
        exact Nat.le_refl _
      · obtain ⟨o1, o2, o3, o4, rfl⟩ := ok_3.mp h
        have := (hl _ _ _ _ o4).2.1 rfl
        show lnT l + 1 + 2 ≤ 3 * (1 + sz l)
        omega
      · obtain ⟨-, -, rfl, rfl⟩ := ok_4.mp h
        exact Nat.le_refl _
      · obtain ⟨-, rfl, rfl⟩ := ok_5.mp h
        exact Nat.le_refl _
      · obtain ⟨o1, o2, o3, o4⟩ := ok_6.mp h
        have := (hl _ _ _ _ o3).1 rfl
        have := (hr _ _ _ _ o4).1 rfl
        show lnT l + lnT r + 1 + 2 ≤ 3 * (1 + sz l + sz r)
        omega
      · obtain ⟨o1, o2, o3, o4⟩ := ok_7.mp h
        have := (hl _ _ _ _ o3).1 rfl
        have := (hr _ _ _ _ o4).1 rfl
        show lnT l + lnT r + 1 + 2 ≤ 3 * (1 + sz l + sz r)
        omega
      · obtain ⟨o1, o3, o4⟩ := ok_8.mp h
        have := (hl _ _ _ _ o3).1 rfl
        have := (hr _ _ _ _ o4).1 rfl
        show lnT l + lnT r + 1 + 2 ≤ 3 * (sz l + sz r)
        omega
      · obtain ⟨o1, o2, o3, o4⟩ := ok_9.mp h
        have := (hl _ _ _ _ o3).1 rfl
        have := (hr _ _ _ _ o4).2.2.1 rfl
        show lnT l + lnT r + 1 + 2 ≤ 3 * (sz l + sz r)
        omega
      · obtain ⟨o1, o2, o3, o4⟩ := ok_10.mp h
        have := (hl _ _ _ _ o3).1 rfl
        have := (hr _ _ _ _ o4).2.2.2 rfl
        show lnT l + lnT r + 1 + 2 ≤ 3 * (sz l + sz r)
        omega
      · obtain ⟨o1, o2, o5, o3, o4⟩ := ok_11.mp h
        have := (hl _ _ _ _ o3).1 rfl
        have := (hr _ _ _ _ o4).1 rfl
        show lnT l + lnT r + 1 + 2 ≤ 3 * (sz l + sz r)
        omega
      · obtain ⟨o1, o2, o5, o3, o4, o6⟩ := ok_12.mp h
        have := (hl _ _ _ _ o3).1 rfl
        have := (hr _ _ _ _ o4).1 rfl
        show lnT l + lnT r + 1 + 2 ≤ 3 * (sz l + sz r)
        omega
    · subst e
      obtain ⟨rfl, -, -, -, -, o3, o4⟩ := ok_21.mp h
      have := (hl _ _ _ _ o3).1 rfl
      have := (hr _ _ _ _ o4).2.1 rfl
      show lnT l + lnT r ≤ 3 * (sz l + sz r)
      omega
    · subst e
      obtain ⟨rfl, o3, o4⟩ := ok_20.mp h
      have := (hl _ _ _ _ o3).1 rfl
      have := (hr _ _ _ _ o4).1 rfl
      show lnT l + lnT r + 1 + 3 ≤ 3 * (sz l + sz r)
      omega
    · subst e
      obtain ⟨rfl, -, -, o3, o4⟩ := ok_22.mp h
      have := (hl _ _ _ _ o3).1 rfl
      have := (hr _ _ _ _ o4).1 rfl
      show lnT l + lnT r + 1 + 3 ≤ 3 * (sz l + sz r)
      omega
