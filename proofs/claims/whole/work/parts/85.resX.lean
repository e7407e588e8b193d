/-! THE JUDGE OF A FUNCTION: a label is resolved; the class -/
def bCar (C : List In) (b : Bk) : Nat := if jLoop C b = true ∨ bkG b = 0 then 0 else 1
def rLab (C : List In) (e : Nat) (b : Bk) (l : Nat) (σ : fkS) : Prop := σ.1 44 (3 * l) = nI (bTgt C e b) ∧ σ.1 44 (3 * l + 1) = nI (bkF b) ∧ σ.1 44 (3 * l + 2) = nI (bCar C b)
def s44 (a b c j : Nat) : Bool := Nat.beq c 44 && (Nat.ble (3 * a) j && Nat.blt j (3 * b))
theorem s44_in {a b l k : Nat} (h1 : a ≤ l) (h2 : l < b) (hk : k < 3) : s44 a b 44 (3 * l + k) = true := by
  unfold s44
  rw [beq_refl', Bool.true_and, Bool.and_eq_true]
  exact ⟨Nat.ble_eq_true_of_le (by omega), Nat.ble_eq_true_of_le (by show 3 * l + k + 1 ≤ 3 * b; omega)⟩
theorem s44_out {a b j : Nat} (h : j < 3 * a ∨ 3 * b ≤ j) : s44 a b 44 j = false := by
  cases hs : s44 a b 44 j with
  | false => rfl
  | true =>
    unfold s44 at hs
    rw [beq_refl', Bool.true_and, Bool.and_eq_true] at hs
    have h1 := Nat.le_of_ble_eq_true hs.1
    have h2 : j < 3 * b := Nat.le_of_ble_eq_true hs.2
    omega
theorem s44_c {a b c j : Nat} (h : c ≠ 44) : s44 a b c j = false := by
  unfold s44
  rw [beq_ne h]
  rfl
theorem s44_mono {a b a2 b2 : Nat} (h1 : a2 ≤ a) (h2 : b ≤ b2) : ∀ c j, s44 a b c j = true → s44 a2 b2 c j = true := fun c j h => by
  unfold s44 at h ⊢
  simp only [Bool.and_eq_true] at h ⊢
  have h3 := Nat.le_of_ble_eq_true h.2.1
  have h4 : j < 3 * b := Nat.le_of_ble_eq_true h.2.2
  exact ⟨h.1, Nat.ble_eq_true_of_le (by omega), Nat.ble_eq_true_of_le (by show j + 1 ≤ 3 * b2; omega)⟩
theorem rJ.fr {J : JS} {S : Nat → Nat → Bool} {σ σ' : fkS} (h : rJ J σ) (f : Fr S σ σ') (h0 : ∀ c j, 50 ≤ c → c ≤ 55 → S c j = false) : rJ J σ' := by
  obtain ⟨hk, a1, a2, a3, a4, a5⟩ := h
  refine ⟨hk, (f 50 5 (h0 _ _ (by decide) (by decide))).1.trans a1, fun k x hx => (f 51 k (h0 _ _ (by decide) (by decide))).1.trans (a2 k x hx), (f 50 10 (h0 _ _ (by decide) (by decide))).1.trans a3, fun k b hb => ?_, (f 50 3 (h0 _ _ (by decide) (by decide))).1.trans a5⟩
  obtain ⟨b1, b2, b3, b4⟩ := a4 k b hb
  exact ⟨(f 52 k (h0 _ _ (by decide) (by decide))).1.trans b1, (f 53 k (h0 _ _ (by decide) (by decide))).1.trans b2, (f 54 k (h0 _ _ (by decide) (by decide))).1.trans b3, (f 55 k (h0 _ _ (by decide) (by decide))).1.trans b4⟩
theorem rowI.fr {C : List In} {S : Nat → Nat → Bool} {σ σ' : fkS} {k : Nat} {i : In} (h : rowI C σ k i) (f : Fr S σ σ') (h0 : ∀ c j, 41 ≤ c → c ≤ 43 → S c j = false) : rowI C σ' k i :=
  ⟨(f 41 k (h0 _ _ (by decide) (by decide))).1.trans h.1, (f 42 k (h0 _ _ (by decide) (by decide))).2.1.trans h.2.1, fun z => (f 43 k (h0 _ _ (by decide) (by decide))).1.trans (h.2.2 z)⟩
theorem DCk.fr {C : List In} {S : Nat → Nat → Bool} {σ σ' : fkS} (h : DCk C σ) (f : Fr S σ σ') (h0 : ∀ c j, 41 ≤ c → c ≤ 43 → S c j = false) : DCk C σ' :=
  ⟨h.1, fun k i hi => ⟨(h.2.1 k i hi).1.fr f h0, (h.2.1 k i hi).2⟩, fun k i o x r hi hop hs => (f 43 x (h0 _ _ (by decide) (by decide))).1.trans (h.2.2.1 k i o x r hi hop hs), h.2.2.2⟩
section RESX
variable {d : Nat} {C : List In} {J : JS} {σ : fkS}
theorem w_res62 {l k e : Nat} {b : Bk} {v3 : Int32} (h : rJ J σ) (h50 : σ.2.2 50 1 = 37) (hD : DCk C σ) (hc : cx C J) (hl : l < 4000) (hb : (jB J)[k]? = some b) (hv : v3 = nI (bTgt C e b)) : Wq 82 (d + 1) 62 [some (.ref 50), some (.int (nI l)), some (.int (nI k)), some (.int v3)] [] σ (Qv fun σ' => σ'.2.2 = σ.2.2 ∧ Fr (s44 l (l + 1)) σ σ' ∧ rLab C e b l σ') := by
  have hB : (jB J).length ≤ 22 := h.1.2.1
  have hk := get_lt hb
  obtain ⟨b1, b2, b3, b4⟩ := h.2.2.2.2.1 k b hb
  have e3 : (3 : Int32) * nI l = nI (3 * l) := by rw [show (3 : Int32) = nI 3 from rfl, nI_mul]
  have e32 : nI (3 * l) + 2 = nI (3 * l + 2) := nI_add (3 * l) 2
  have vk : vp_in (nI k) 22 := vp_in_nI (by omega) (by decide)
  have c0 : (nI (3 * l)).toNatClampNeg = 3 * l := nI_clamp (by omega)
  have c1 : (nI (3 * l + 1)).toNatClampNeg = 3 * l + 1 := nI_clamp (by omega)
  have c2 : (nI (3 * l + 2)).toNatClampNeg = 3 * l + 2 := nI_clamp (by omega)
  have ck : (nI k).toNatClampNeg = k := nI_clamp (by omega)
  subst hv
  refine S_Judge_resolve_62 h50 ?_
  rw [e3, nI_1, e32, c0, c1, c2, ck, b2]
  refine ⟨by decide, vp_in_nI (by omega) (by decide), by decide, vk, vp_in_nI (by omega) (by decide), by decide, ?_⟩
  have f2 : Fr (s44 l (l + 1)) σ (sI (sI σ 44 (3 * l) (nI (bTgt C e b))) 44 (3 * l + 1) (nI (bkF b))) := (Fr.rf.sI (s44_in (k := 0) (Nat.le_refl _) (by omega) (by decide))).sI (s44_in (k := 1) (Nat.le_refl _) (by omega) (by decide))
  generalize hτ : sI (sI σ 44 (3 * l) (nI (bTgt C e b))) 44 (3 * l + 1) (nI (bkF b)) = τ at *
  have t0 : τ.1 44 (3 * l) = nI (bTgt C e b) := by
    rw [← hτ, sI_so (by omega)]
    exact sI_ss
  have t1 : τ.1 44 (3 * l + 1) = nI (bkF b) := by
    rw [← hτ]
    exact sI_ss
  have tr : τ.2.2 = σ.2.2 := by rw [← hτ]; rfl
  clear hτ
  have h2 : rJ J τ := h.fr f2 fun c j q _ => s44_c (by omega)
  have hD2 : DCk C τ := hD.fr f2 fun c j _ q => s44_c (by omega)
  have h502 : τ.2.2 50 1 = 37 := by rw [tr]; exact h50
  have fin : ∀ x : Nat, x = bCar C b → Qv (fun σ' => σ'.2.2 = σ.2.2 ∧ Fr (s44 l (l + 1)) σ σ' ∧ rLab C e b l σ') none (sI τ 44 (3 * l + 2) (nI x)) := fun x hx => by
    subst hx
    refine ⟨tr, f2.sI (s44_in (k := 2) (Nat.le_refl _) (by omega) (by decide)), ?_, ?_, sI_ss⟩
    · rw [sI_so (by omega)]
      exact t0
    · rw [sI_so (by omega)]
      exact t1
  refine (c_isLoop h2 h502 hD2 hc hb).mono fun x σ1 hx => ?_
  obtain ⟨r, rfl, e1, hr, hs⟩ := Qi_s hx
  subst hr
  rw [hs]
  refine ⟨rfl, ?_⟩
  simp only [sW_eq tr]
  have vl2 : vp_in (nI (3 * l + 2)) 12000 := vp_in_nI (by omega) (by decide)
  have t54 : τ.1 54 k = nI (bkG b) := (h2.2.2.2.2.1 k b hb).2.2.1
  have hg : bkG b < 200 := (h.1.2.2.2.1 k b hb).2.1
  rw [t54]
  refine ⟨fun z => ⟨vl2, fin 0 ?_⟩, fun z => ⟨vk, And.comm.mp (pk_eq (bkG b) 0 (fun y => ⟨vl2, fin 0 ?_⟩) fun y => ⟨vl2, fin 1 ?_⟩)⟩⟩
  · have : jLoop C b = true := by
      cases hg : jLoop C b with
      | true => rfl
      | false => exact absurd (b2i_0.mpr hg) z
    unfold bCar
    rw [if_pos (.inl this)]
  · unfold bCar
    rw [if_pos (.inr y)]
  · unfold bCar
    rw [b2i_0.mp z, if_neg]
    rintro (q | q)
    · cases q
    · exact y q
theorem c_resolve {l lab f e : Nat} {b : Bk} (h : rJ J σ) (h50 : σ.2.2 50 1 = 37) (hD : DCk C σ) (hc : cx C J) (hl : l < 4000) (h44 : σ.1 44 (3 * l) = nI lab) (hlab : lab < 2 ^ 32) (hb : jBk J lab = some b) (hf : σ.1 50 2 = nI f) (hf60 : f < 60) (he : σ.1 38 f = nI e) : Dv (d + 2) 82 [.ref 50, .int (nI l)] σ (fun σ' => Fr (s44 l (l + 1)) σ σ' ∧ rLab C e b l σ') := by
  have hB : (jB J).length ≤ 22 := h.1.2.1
  obtain ⟨k, hk, hkb, hkl⟩ := jIx_some hb
  obtain ⟨b1, b2, b3, b4⟩ := h.2.2.2.2.1 k b hkb
  have vk : vp_in (nI k) 22 := vp_in_nI (by omega) (by decide)
  have ck : (nI k).toNatClampNeg = k := nI_clamp (by omega)
  refine S_Judge_resolve h50 ((c_blockOf h h50 hl h44 hlab).mono fun x σ1 hx => ?_)
  obtain ⟨r, rfl, e1, hr, hs⟩ := Qi_s hx
  rw [hk] at hr
  subst hr
  rw [hs]
  refine ⟨rfl, by decide, ?_⟩
  simp only [sW_id]
  rw [hf, nI_clamp (n := f) (by omega), he]
  refine ⟨vp_in_nI hf60 (by decide), (c_isLoop h h50 hD hc hkb).mono fun x σ1 hx => ?_⟩
  obtain ⟨r, rfl, e1, hr, hs⟩ := Qi_s hx
  subst hr
  rw [hs]
  refine ⟨rfl, ?_⟩
  simp only [sW_id]
  have e52 : σ.1 52 (nI k).toNatClampNeg = oI (bkO b) := by rw [ck]; exact b1
  rw [e52]
  unfold bTgt at *
  refine ⟨fun z => ⟨vk, ?_⟩, fun z => ⟨vk, ?_⟩⟩
  · have z := b2i_0.mp z
    cases ho : bkO b with
    | none =>
      refine ⟨fun _ => w_res62 h h50 hD hc hl hkb ?_, fun y => absurd (by decide) y⟩
      unfold bTgt
      rw [ho]
    | some o =>
      have ho4 : o < 4000 := (h.1.2.2.2.1 k b hkb).2.2 o ho
      obtain ⟨i, hi, hi2⟩ := hc k b o hkb ho
      refine ⟨fun y => absurd y (nI_pos (n := o) (by omega)), fun _ => ⟨by decide, vk, (c_endOf hD (clo_open hD.2.2.2 hi hi2) ho4).mono fun x σ1 hx => ?_⟩⟩
      obtain ⟨r, rfl, e1, hr, hs⟩ := Qi_s hx
      subst hr
      rw [hs]
      refine ⟨rfl, w_res62 h h50 hD hc hl hkb ?_⟩
      unfold bTgt
      unfold jLoop at z
      rw [ho] at z ⊢
      have z : ¬ opC C o = 3 := of_decide_eq_false z
      show nI (endI C o) = nI (if opC C o = 3 then o + 1 else endI C o)
      rw [if_neg z]
  · have z : jLoop C b = true := by
      cases hg : jLoop C b with
      | true => rfl
      | false => exact absurd (b2i_0.mpr hg) z
    refine w_res62 h h50 hD hc hl hkb ?_
    unfold bTgt
    unfold jLoop at z
    cases ho : bkO b with
    | none =>
      rw [ho] at z
      cases z
    | some o =>
      rw [ho] at z
      have z : opC C o = 3 := of_decide_eq_true z
      show nI o + 1 = nI (if opC C o = 3 then o + 1 else endI C o)
      rw [if_pos z, nI_1]
end RESX
