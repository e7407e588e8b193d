/-! THE SWAP: cells by other numbers. After a module (a program) is taken, the kept rows and the draft rows have changed places; the small machine's cells are numbered anew. -/
def rnR (π : Nat → Nat) : Nat → Nat
  | 0 => 0
  | r + 1 => π r + 1
def rnS (π : Nat → Nat) (σ : fkS) : fkS := (fun k => σ.1 (π k), fun k => σ.2.1 (π k), fun k j => rnR π (σ.2.2 (π k) j))
def rnG (π : Nat → Nat) (g : fkG) : fkG := (g.1, fun k => g.2.1 (π k), g.2.2)
def rn_okE (π : Nat → Nat) (k : Nat) (ci : Nat) : Bool := ((fk_tg.getD ci []).mapIdx (fun j t => !(Nat.beq t 4) || Nat.beq (π (fk_cr k j)) (fk_cr (π k) j))).all id
def rn_okK (π : Nat → Nat) (k : Nat) : Bool := Nat.blt (π k) fk_nC && (match fk_sh[k]?, fk_sh[π k]? with
  | some a, some b => Nat.beq a.1 b.1 && Nat.beq a.2 b.2 && (match a.1 with
    | ci + 4 => rn_okE π k ci
    | _ => true)
  | _, _ => false)
def rn_ok (π : Nat → Nat) : Bool := (List.range fk_nC).all (rn_okK π)
theorem rn_fv {π : Nat → Nat} (hπ : ∀ k, π (π k) = k) {a : Nat → Int32} {b : Nat → Int64} {c : Nat → Nat} {g : fkG} {k j t : Nat} (h : t = 4 → π (fk_cr k j) = fk_cr (π k) j) : fk_fv a b (fun j => rnR π (c j)) (rnG π g) k j t = fk_fv a b c g (π k) j t := by
  unfold fk_fv
  split
  · rfl
  · rfl
  · rfl
  · rfl
  · show Value.ref (g.2.1 (π (fk_cr k j))) = _
    rw [h rfl]
  · have e0 : (fun j => rnR π (c j)) j = rnR π (c j) := rfl
    rw [e0]
    cases c j with
    | zero => rfl
    | succ r =>
      show Value.ref (g.2.1 (π (π r))) = Value.ref (g.2.1 r)
      rw [hπ]
theorem rn_en {π : Nat → Nat} (hπ : ∀ k, π (π k) = k) (hok : rn_ok π = true) {k : Nat} {sh : Nat × Nat} (hs : fk_sh[k]? = some sh) {a : Nat → Int32} {b : Nat → Int64} {c : Nat → Nat} {g : fkG} : fk_sh[π k]? = some sh ∧ π k < fk_nC ∧ fk_en a b (fun j => rnR π (c j)) (rnG π g) k sh = fk_en a b c g (π k) sh := by
  have h1 := List.all_eq_true.mp hok k (List.mem_range.mpr (fk_lt hs))
  unfold rn_okK at h1
  obtain ⟨o1, o2⟩ := fk_and h1
  rw [hs] at o2
  split at o2
  next x y hx hy =>
    cases hx
    obtain ⟨o3, o4⟩ := fk_and o2
    obtain ⟨o5, o6⟩ := fk_and o3
    have e1 : sh = y := Prod.ext (Nat.eq_of_beq_eq_true o5) (Nat.eq_of_beq_eq_true o6)
    refine ⟨by rw [hy, e1], Nat.le_of_ble_eq_true o1, ?_⟩
    obtain ⟨s1, s2⟩ := sh
    match s1, o4 with
    | 0, _ => rfl
    | 1, _ => rfl
    | 2, _ => rfl
    | 3, _ => rfl
    | ci + 4, o4 =>
      rw [fk_en_obj, fk_en_obj]
      congr 2
      apply List.ext_getElem?
      intro j
      cases ht : (fk_tg.getD ci [])[j]? with
      | none =>
        simp only [fk_fs, List.getElem?_mapIdx, ht]
        rfl
      | some t =>
        rw [fk_fs_get ht, fk_fs_get ht]
        congr 1
        refine rn_fv hπ fun e => ?_
        have hF := List.all_eq_true.mp o4 _ (List.mem_of_getElem? (i := j) (by rw [List.getElem?_mapIdx, ht]; rfl))
        subst e
        exact Nat.eq_of_beq_eq_true hF
  next => cases o2
theorem rn_P {π : Nat → Nat} (hπ : ∀ k, π (π k) = k) (hok : rn_ok π = true) {g : fkG} {σ : fkS} {H : Heap} (h : va_P g.1 fk_cls (fk_ws σ g) H) : va_P (rnG π g).1 fk_cls (fk_ws (rnS π σ) (rnG π g)) H := by
  intro k q hq
  obtain ⟨sh, hs, rfl⟩ := fk_ws_some hq
  obtain ⟨e1, -, e2⟩ := rn_en hπ hok hs (a := σ.1 (π k)) (b := σ.2.1 (π k)) (c := σ.2.2 (π k)) (g := g)
  have h1 := h (π k) _ (fk_ws_get e1)
  rw [← e2] at h1
  exact h1
theorem rn_lt {π : Nat → Nat} (hok : rn_ok π = true) {k : Nat} (hk : k < fk_nC) : π k < fk_nC := by
  have h1 := List.all_eq_true.mp hok k (List.mem_range.mpr hk)
  unfold rn_okK at h1
  exact Nat.le_of_ble_eq_true (fk_and h1).1
theorem rn_G {π : Nat → Nat} (hπ : ∀ k, π (π k) = k) (hok : rn_ok π = true) (h0 : π 0 = 0) (h1 : π 103 = 103) (h2 : ∀ i, 1000 ≤ i → π i = i) {s : State} {B : Nat} {g : fkG} (h : Gok s B g) : Gok s B (rnG π g) := by
  obtain ⟨a1, a2, a3, a4, a5, a6⟩ := h
  have e : ∀ i, 1000 ≤ i → (rnG π g).2.1 i = g.2.1 i := fun i hi => congrArg g.2.1 (h2 i hi)
  refine ⟨a1, ⟨?_, fun i q hq => ?_⟩, fun i j hi hj hij => ?_, fun i hi => a4 _ (rn_lt hok hi), (congrArg g.2.1 h0).trans a5, (congrArg g.2.1 h1).trans a6⟩
  · unfold fk_cst fk_sc fk_so
    rw [e 1000 (by omega), e 1001 (by omega)]
    refine ⟨a2.1.1, a2.1.2.1, a2.1.2.2.1, a2.1.2.2.2.1, fun i hi => ?_⟩
    rw [e (2000 + i) (by omega), e (3000 + i) (by omega)]
    exact a2.1.2.2.2.2 i hi
  · rw [e (2000 + i) (by omega)]
    exact a2.2 i q hq
  · have h3 := a3 _ _ (rn_lt hok hi) (rn_lt hok hj) hij
    have h4 := congrArg π h3
    rw [hπ, hπ] at h4
    exact h4
/-- n cells from lo and n from hi change places -/
def swp (lo hi n k : Nat) : Nat := bif Nat.ble lo k && Nat.blt k (lo + n) then k + (hi - lo) else bif Nat.ble hi k && Nat.blt k (hi + n) then k - (hi - lo) else k
theorem swp_eq (lo hi n k : Nat) : swp lo hi n k = if lo ≤ k ∧ k < lo + n then k + (hi - lo) else if hi ≤ k ∧ k < hi + n then k - (hi - lo) else k := by
  have key : ∀ a b : Nat, (Nat.ble a k && Nat.blt k b) = decide (a ≤ k ∧ k < b) := by
    intro a b
    rw [Bool.eq_iff_iff, Bool.and_eq_true, decide_eq_true_iff]
    exact ⟨fun h => ⟨Nat.le_of_ble_eq_true h.1, Nat.le_of_ble_eq_true h.2⟩, fun h => ⟨Nat.ble_eq_true_of_le h.1, Nat.ble_eq_true_of_le h.2⟩⟩
  unfold swp
  rw [key, key]
  by_cases c1 : lo ≤ k ∧ k < lo + n
  · rw [decide_eq_true c1, if_pos c1]; rfl
  · rw [decide_eq_false c1, if_neg c1]
    by_cases c2 : hi ≤ k ∧ k < hi + n
    · rw [decide_eq_true c2, if_pos c2]; rfl
    · rw [decide_eq_false c2, if_neg c2]; rfl
theorem swp_inv {lo hi n : Nat} (h : lo + n ≤ hi) (k : Nat) : swp lo hi n (swp lo hi n k) = k := by
  rw [swp_eq, swp_eq]
  by_cases c1 : lo ≤ k ∧ k < lo + n
  · rw [if_pos c1, if_neg (by omega), if_pos (by omega)]
    omega
  · rw [if_neg c1]
    by_cases c2 : hi ≤ k ∧ k < hi + n
    · rw [if_pos c2, if_pos (by omega)]
      omega
    · rw [if_neg c2, if_neg c1, if_neg c2]
/-- the rows of modules change places; those of programs -/
def swM : Nat → Nat := swp 3 24 21
def swP : Nat → Nat := swp 62 75 13
set_option maxRecDepth 100000 in
theorem swM_ok : rn_ok swM = true := by decide +kernel
set_option maxRecDepth 100000 in
theorem swP_ok : rn_ok swP = true := by decide +kernel
theorem swM_go {s : State} {B : Nat} {g : fkG} {σ : fkS} (h : Gok s B g) : Gok s B (rnG swM g) ∧ ∀ H, va_P g.1 fk_cls (fk_ws σ g) H → va_P (rnG swM g).1 fk_cls (fk_ws (rnS swM σ) (rnG swM g)) H :=
  ⟨rn_G (swp_inv (by decide)) swM_ok rfl rfl (fun i hi => by rw [swp_eq, if_neg (by omega), if_neg (by omega)]) h, fun _ hP => rn_P (swp_inv (by decide)) swM_ok hP⟩
theorem swP_go {s : State} {B : Nat} {g : fkG} {σ : fkS} (h : Gok s B g) : Gok s B (rnG swP g) ∧ ∀ H, va_P g.1 fk_cls (fk_ws σ g) H → va_P (rnG swP g).1 fk_cls (fk_ws (rnS swP σ) (rnG swP g)) H :=
  ⟨rn_G (swp_inv (by decide)) swP_ok rfl rfl (fun i hi => by rw [swp_eq, if_neg (by omega), if_neg (by omega)]) h, fun _ hP => rn_P (swp_inv (by decide)) swP_ok hP⟩
