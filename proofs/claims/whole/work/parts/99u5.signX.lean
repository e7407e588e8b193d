/-! the class's signs; its TOKENS one by one -/
/-- the kind that the class gives a TOKEN -/
def kX (t : Nat → UInt8) (q : Nat × Nat × Nat × Nat) : Int32 := if q.1 = 0 then 0 else if q.1 = 1 then kwG (tw t q.2.1 q.2.2.1) 14 0 1 else if q.1 = 2 then 2 else if q.1 = 3 then nI q.2.2.2 else 3
/-- its value, of words and numbers -/
def vX (t : Nat → UInt8) (q : Nat × Nat × Nat × Nat) (v : Int64) : Prop := (q.1 = 1 → v = wvT t q.2.1 q.2.2.1) ∧ (q.1 = 2 → v = lN (nvT t q.2.1 q.2.2.1))
theorem tbt_in {t : Nat → UInt8} {n i : Nat} (h : i < n) : tbt t n i = (t i).toNat := if_pos h
theorem sgs_bt : fk_bt 1 = sgs.map nI ∧ fk_bt 2 = sgs.map nI ∧ ∀ c ∈ sgs, c < 128 := by decide +kernel
theorem sgs_mem {c : Nat} (hc : c < 256) {l : List Int32} (hl : l = sgs.map nI) : nI c ∈ l ↔ c ∈ sgs := by
  rw [hl]
  constructor
  · intro h
    obtain ⟨x, hx, e⟩ := List.mem_map.mp h
    have := sgs_bt.2.2 x hx
    rw [(nI_eq (by omega) (by omega)).mp e] at hx
    exact hx
  · intro h
    exact List.mem_map.mpr ⟨c, h, rfl⟩
theorem i2c_b : (List.range 256).all (fun c => decide (fk_i2c (nI c) = nI c)) = true := by decide +kernel
theorem i2c_nI {c : Nat} (hc : c < 256) : fk_i2c (nI c) = nI c := of_decide_eq_true (List.all_eq_true.mp i2c_b c (List.mem_range.mpr hc))
section SX
variable {d n a : Nat} {t : Nat → UInt8} {σ : fkS}
theorem bX_eq {i c : Nat} (hc : 0 < c) (hc2 : c < 256) : bX t n i = nI c ↔ tbt t n i = c := by
  unfold bX tbt
  by_cases h : i < n
  · rw [if_pos h, if_pos h]
    have := (t i).toNat_lt
    exact nI_eq (by omega) (by omega)
  · rw [if_neg h, if_neg h]
    constructor
    · intro e
      have := (nI_eq (a := 0) (b := c) (by omega) (by omega)).mp e
      omega
    · intro e; omega
theorem p_sign85 {c : Nat} (hc : c < 256) (Q : Option Value → fkS → Prop) (hQ : ∀ k : Int32, k = (if c ∈ sgs then nI c else 3) → Q none (sI σ 88 9 k)) : Wq 165 (d + 4) 85 [some (.ref 88), some (.int (nI c)), none] [] σ Q := by
  refine S_Parser_sign_85 ⟨fun z => hQ 3 ?_, fun z => ?_⟩
  · rw [if_neg]
    intro q
    have := sgs_bt.2.2 c q
    exact absurd z (nI_ge (b := 128) this (by decide))
  · rw [i2c_nI hc]
    refine rg_S (i := 1) (by decide) ((s_indexOf (d := d) (i := 1) (by decide) hc).mono fun x s hx => ?_)
    obtain ⟨v, rfl, rfl, hv⟩ := Qi_s hx
    refine ⟨rfl, fun z2 => hQ 3 ?_, fun z2 => hQ (nI c) ?_⟩
    · rw [if_neg]
      intro q
      have := hv.mpr ((sgs_mem hc sgs_bt.1).mpr q)
      exact absurd z2 (Int32.not_lt.mpr this)
    · rw [if_pos ((sgs_mem hc sgs_bt.1).mp (hv.mp (Int32.not_lt.mp z2)))]
theorem tokA_S (ha : a < n) (h1 : cL (t a).toNat = false) (h2 : cD (t a).toNat = false) : tokA t n a = if (t a).toNat = 61 ∧ tbt t n (a + 1) = 61 then (3, a, a + 2, 128) else if (t a).toNat = 45 ∧ tbt t n (a + 1) = 62 then (3, a, a + 2, 129) else if (t a).toNat ∈ sgs then (3, a, a + 1, (t a).toNat) else (4, a, a + 1, 0) := by
  have := (t a).toNat_lt
  unfold tokA
  simp only [tbt_in ha]
  rw [if_neg (by omega), h1, if_neg (by decide), h2, if_neg (by decide)]
theorem tokA_L (ha : a < n) (h1 : cL (t a).toNat = true) : tokA t n a = (if runP cW t n a - a ≤ 10 then 1 else 4, a, runP cW t n a, 0) := by
  have := (t a).toNat_lt
  unfold tokA
  simp only [tbt_in ha]
  rw [if_neg (by omega), if_pos h1]
theorem tokA_D (ha : a < n) (h1 : cL (t a).toNat = false) (h2 : cD (t a).toNat = true) : tokA t n a = (if nvT t a (runP cD t n a) < 2147483648 then 2 else 4, a, runP cD t n a, 0) := by
  have := (t a).toNat_lt
  unfold tokA
  simp only [tbt_in ha]
  rw [if_neg (by omega), h1, if_neg (by decide), if_pos h2]
theorem tokA_E (ha : ¬ a < n) : tokA t n a = (0, a, a, 0) := by
  unfold tokA tbt
  rw [if_neg ha]
  rfl
theorem p_sign (h : PTx t n σ) (h3 : σ.1 88 3 = nI a) (h10 : σ.1 88 10 = nI a) (ha : a < n) (h1 : cL (t a).toNat = false) (h2 : cD (t a).toNat = false) : Dv (d + 4) 165 [.ref 88, .int (nI (t a).toNat)] σ (fun s => Fr fkPV σ s ∧ s.1 88 3 = nI (tokA t n a).2.2.1 ∧ s.1 88 9 = kX t (tokA t n a)) := by
  have hn := h.2.2.2
  have hb := (t a).toNat_lt
  have e1 : nI a + 1 = nI (a + 1) := (nI_succ a).symm
  have e2 : nI (a + 1) + 1 = nI (a + 2) := (nI_succ (a + 1)).symm
  have kS : ∀ b s, kX t (3, a, b, s) = nI s := fun b s => rfl
  have k4 : ∀ b, kX t (4, a, b, 0) = 3 := fun b => rfl
  rw [tokA_S ha h1 h2]
  refine S_Parser_sign ?_
  rw [h10, e1]
  refine (p_byte (i := a + 1) h (by omega)).mono fun x s hx => ?_
  obtain ⟨v, rfl, g1, rfl, rfl⟩ := Qi_s hx
  refine ⟨g1, ?_⟩
  simp only [sW_eq g1]
  rw [h3, e1]
  -- one sign
  have one : ¬ ((t a).toNat = 61 ∧ tbt t n (a + 1) = 61) → Wq 165 (d + 4) 53 [some (.ref 88), some (.int (nI (t a).toNat)), some (.int (bX t n (a + 1)))] [] (sI s 88 3 (nI (a + 1))) (Qv (fun s2 => s2.2.2 = s.2.2 ∧ Fr fkPV s s2 ∧ s2.1 88 3 = nI (if (t a).toNat = 61 ∧ tbt t n (a + 1) = 61 then ((3, a, a + 2, 128) : Nat × Nat × Nat × Nat) else if (t a).toNat = 45 ∧ tbt t n (a + 1) = 62 then (3, a, a + 2, 129) else if (t a).toNat ∈ sgs then (3, a, a + 1, (t a).toNat) else (4, a, a + 1, 0)).2.2.1 ∧ s2.1 88 9 = kX t (if (t a).toNat = 61 ∧ tbt t n (a + 1) = 61 then ((3, a, a + 2, 128) : Nat × Nat × Nat × Nat) else if (t a).toNat = 45 ∧ tbt t n (a + 1) = 62 then (3, a, a + 2, 129) else if (t a).toNat ∈ sgs then (3, a, a + 1, (t a).toNat) else (4, a, a + 1, 0)))) := by
    intro c1
    rw [if_neg c1]
    have two : ¬ ((t a).toNat = 45 ∧ tbt t n (a + 1) = 62) → Wq 165 (d + 4) 85 [some (.ref 88), some (.int (nI (t a).toNat)), none] [] (sI s 88 3 (nI (a + 1))) (Qv (fun s2 => s2.2.2 = s.2.2 ∧ Fr fkPV s s2 ∧ s2.1 88 3 = nI (if (t a).toNat = 45 ∧ tbt t n (a + 1) = 62 then ((3, a, a + 2, 129) : Nat × Nat × Nat × Nat) else if (t a).toNat ∈ sgs then (3, a, a + 1, (t a).toNat) else (4, a, a + 1, 0)).2.2.1 ∧ s2.1 88 9 = kX t (if (t a).toNat = 45 ∧ tbt t n (a + 1) = 62 then ((3, a, a + 2, 129) : Nat × Nat × Nat × Nat) else if (t a).toNat ∈ sgs then (3, a, a + 1, (t a).toNat) else (4, a, a + 1, 0)))) := by
      intro c2
      rw [if_neg c2]
      refine p_sign85 (d := d) hb _ fun k hk => ?_
      subst hk
      have e3 : (sI (sI s 88 3 (nI (a + 1))) 88 9 (if (t a).toNat ∈ sgs then nI (t a).toNat else 3)).1 88 3 = nI (a + 1) := (sI_so (by decide)).trans sI_ss
      refine ⟨rfl, (Fr.rf.sI rfl).sI rfl, e3.trans ?_, sI_ss.trans ?_⟩
      · by_cases c3 : (t a).toNat ∈ sgs
        · rw [if_pos c3]
        · rw [if_neg c3]
      · by_cases c3 : (t a).toNat ∈ sgs
        · rw [if_pos c3, if_pos c3]; rfl
        · rw [if_neg c3, if_neg c3]; rfl
    refine S_Parser_sign_53 ⟨fun z => two (fun q => z ?_), fun z => ⟨fun z2 => two (fun q => z2 ?_), fun z2 => ?_⟩⟩
    · rw [q.1]; rfl
    · exact (bX_eq (c := 62) (by decide) (by decide)).mpr q.2
    · have q1 : (t a).toNat = 45 := (nI_eq (b := 45) (by omega) (by decide)).mp z
      have q2 : tbt t n (a + 1) = 62 := (bX_eq (c := 62) (by decide) (by decide)).mp z2
      rw [if_pos ⟨q1, q2⟩]
      have e4 : (sI s 88 3 (nI (a + 1))).1 88 3 + 1 = nI (a + 2) := by rw [sI_ss]; exact e2
      rw [e4]
      exact ⟨rfl, ((Fr.rf.sI rfl).sI rfl).sI rfl, (sI_so (by decide)).trans sI_ss, sI_ss⟩
  refine ⟨fun z => one (fun q => z ?_), fun z => ⟨fun z2 => one (fun q => z2 ?_), fun z2 => ?_⟩⟩
  · rw [q.1]; rfl
  · exact (bX_eq (c := 61) (by decide) (by decide)).mpr q.2
  · have q1 : (t a).toNat = 61 := (nI_eq (b := 61) (by omega) (by decide)).mp z
    have q2 : tbt t n (a + 1) = 61 := (bX_eq (c := 61) (by decide) (by decide)).mp z2
    rw [if_pos ⟨q1, q2⟩, e2]
    exact ⟨rfl, ((Fr.rf.sI rfl).sI rfl).sI rfl, (sI_so (by decide)).trans sI_ss, sI_ss⟩
end SX
