/-! THE TEXT OF A PROGRAM: runs of signs, words, numbers -/
/-- the sign at i; 256: none -/
def tbt (t : Nat → UInt8) (n i : Nat) : Nat := if i < n then (t i).toNat else 256
def cB (c : Nat) : Bool := c == 32 || c == 10
def cL (c : Nat) : Bool := 97 ≤ c && c ≤ 122
def cD (c : Nat) : Bool := 48 ≤ c && c ≤ 57
def cW (c : Nat) : Bool := cL c || cD c
/-- behind the run of what is f from i on -/
def runG (f : Nat → Bool) (t : Nat → UInt8) (n : Nat) : Nat → Nat → Nat
  | 0, i => i
  | k + 1, i => if i < n ∧ f (t i).toNat = true then runG f t n k (i + 1) else i
def runP (f : Nat → Bool) (t : Nat → UInt8) (n i : Nat) : Nat := runG f t n (n - i) i
theorem runP_on {f : Nat → Bool} {t : Nat → UInt8} {n i : Nat} (h : i < n) (hf : f (t i).toNat = true) : runP f t n i = runP f t n (i + 1) := by
  unfold runP
  have e : n - i = (n - (i + 1)) + 1 := by omega
  rw [e, runG, if_pos ⟨h, hf⟩]
theorem runP_off {f : Nat → Bool} {t : Nat → UInt8} {n i : Nat} (h : ¬ (i < n ∧ f (t i).toNat = true)) : runP f t n i = i := by
  unfold runP
  cases n - i with
  | zero => rfl
  | succ k => rw [runG, if_neg h]
theorem runP_ind {f : Nat → Bool} {t : Nat → UInt8} {n : Nat} (P : Nat → Prop) (h1 : ∀ i, i < n → f (t i).toNat = true → P (i + 1) → P i) (h0 : ∀ i, ¬ (i < n ∧ f (t i).toNat = true) → P i) : ∀ i, P i := by
  have key : ∀ k i, n - i = k → P i := by
    intro k
    induction k with
    | zero => intro i hi; exact h0 i (by omega)
    | succ k ih =>
      intro i hi
      by_cases c : i < n ∧ f (t i).toNat = true
      · exact h1 i c.1 c.2 (ih (i + 1) (by omega))
      · exact h0 i c
  exact fun i => key _ i rfl
theorem runP_le {f : Nat → Bool} {t : Nat → UInt8} {n : Nat} : ∀ i, i ≤ runP f t n i ∧ (i ≤ n → runP f t n i ≤ n) := by
  refine runP_ind (f := f) (t := t) (n := n) _ (fun i h hf ih => ?_) (fun i h => ?_)
  · rw [runP_on h hf]
    exact ⟨by omega, fun _ => ih.2 h⟩
  · rw [runP_off h]
    exact ⟨Nat.le_refl i, id⟩
theorem runP_all {f : Nat → Bool} {t : Nat → UInt8} {n : Nat} : ∀ i j, i ≤ j → j < runP f t n i → f (t j).toNat = true := by
  have key : ∀ i, ∀ j, i ≤ j → j < runP f t n i → f (t j).toNat = true := by
    refine runP_ind (f := f) (t := t) (n := n) _ (fun i h hf ih j hj hr => ?_) (fun i h j hj hr => ?_)
    · rw [runP_on h hf] at hr
      rcases Nat.lt_or_ge i j with c | c
      · exact ih j c hr
      · have : j = i := by omega
        subst this
        exact hf
    · rw [runP_off h] at hr
      omega
  exact key
theorem runP_end {f : Nat → Bool} {t : Nat → UInt8} {n : Nat} : ∀ i, ¬ (runP f t n i < n ∧ f (t (runP f t n i)).toNat = true) := by
  refine runP_ind (f := f) (t := t) (n := n) _ (fun i h hf ih => ?_) (fun i h => ?_)
  · rw [runP_on h hf]; exact ih
  · rw [runP_off h]; exact h
/-- the number of digits i to j, 2^31 at most -/
def nvS (v d : Nat) : Nat := min (10 * v + d) 2147483648
def nvG (t : Nat → UInt8) : Nat → Nat → Nat → Nat
  | 0, _, v => v
  | k + 1, i, v => nvG t k (i + 1) (nvS v ((t i).toNat - 48))
def nvT (t : Nat → UInt8) (i j : Nat) : Nat := nvG t (j - i) i 0
/-- a word as a number -/
def wvD (c : Nat) : Nat := if cL c then c - 86 else c - 47
def wvG (t : Nat → UInt8) : Nat → Nat → Int64 → Int64
  | 0, _, v => v
  | k + 1, i, v => wvG t k (i + 1) (v * 37 + Int64.ofNat (wvD (t i).toNat))
def wvT (t : Nat → UInt8) (i j : Nat) : Int64 := wvG t (j - i) i 0
/-- the signs i to j -/
def tw (t : Nat → UInt8) (i j : Nat) : List Nat := (List.range (j - i)).map fun k => (t (i + k)).toNat
def kws : List (List Nat) := [[102, 117, 110], [108, 101, 116], [105, 110], [105, 102], [116, 104, 101, 110], [101, 108, 115, 101], [109, 97, 116, 99, 104], [119, 105, 116, 104], [110, 105, 108], [99, 111, 110, 115], [100, 111], [105, 110, 116], [108, 105, 115, 116], [97, 99, 116]]
def sgs : List Nat := [40, 41, 44, 58, 59, 61, 43, 45, 42, 47, 37, 60, 38, 124]
/-- the TOKEN from p on: what it is (0 the end, 1 a word, 2 a number, 3 a sign, 4 none), where it begins, where it ends, which sign -/
def tokA (t : Nat → UInt8) (n a : Nat) : Nat × Nat × Nat × Nat :=
  let c := tbt t n a
  if c = 256 then (0, a, a, 0)
  else if cL c then (if runP cW t n a - a ≤ 10 then 1 else 4, a, runP cW t n a, 0)
  else if cD c then (if nvT t a (runP cD t n a) < 2147483648 then 2 else 4, a, runP cD t n a, 0)
  else if c = 61 ∧ tbt t n (a + 1) = 61 then (3, a, a + 2, 128)
  else if c = 45 ∧ tbt t n (a + 1) = 62 then (3, a, a + 2, 129)
  else if c ∈ sgs then (3, a, a + 1, c)
  else (4, a, a + 1, 0)
def tok (t : Nat → UInt8) (n p : Nat) : Nat × Nat × Nat × Nat := tokA t n (runP cB t n p)
/-! what the class reads -/
theorem u8_bl : (List.range 256).all (fun b => decide ((UInt8.ofNat b).toInt8.toInt32 = 32 ↔ b = 32) && decide ((UInt8.ofNat b).toInt8.toInt32 = 10 ↔ b = 10)) = true := by decide +kernel
theorem i8_blank (b : UInt8) : (b.toInt8.toInt32 = 32 ↔ b.toNat = 32) ∧ (b.toInt8.toInt32 = 10 ↔ b.toNat = 10) := by
  have h := List.all_eq_true.mp u8_bl b.toNat (List.mem_range.mpr b.toNat_lt)
  rw [Bool.and_eq_true, UInt8.ofNat_toNat] at h
  exact ⟨of_decide_eq_true h.1, of_decide_eq_true h.2⟩
/-- the class's reader of a PROGRAM -/
def PTx (t : Nat → UInt8) (n : Nat) (σ : fkS) : Prop := σ.2.2 88 1 = 2 ∧ σ.1 88 2 = nI n ∧ (∀ k, k < n → σ.1 1 k = (t k).toInt8.toInt32) ∧ n ≤ 4000
def fkPT (c j : Nat) : Bool := Nat.beq c 1 || (Nat.beq c 88 && (Nat.beq j 1 || Nat.beq j 2))
theorem PTx.fr {t : Nat → UInt8} {n : Nat} {σ σ' : fkS} {S : Nat → Nat → Bool} (h : PTx t n σ) (hf : Fr S σ σ') (h1 : ∀ j, S 1 j = false) (h2 : S 88 1 = false) (h3 : S 88 2 = false) : PTx t n σ' := by
  obtain ⟨a1, a2, a3, a4⟩ := h
  exact ⟨(hf _ _ h2).2.2.trans a1, (hf _ _ h3).1.trans a2, fun k hk => (hf _ _ (h1 k)).1.trans (a3 k hk), a4⟩
def bX (t : Nat → UInt8) (n i : Nat) : Int32 := if i < n then bI (t i) else 0
theorem p_byte {d n i : Nat} {t : Nat → UInt8} {σ : fkS} (h : PTx t n σ) (hi : i < 2 ^ 31) : Di d 147 [.ref 88, .int (nI i)] σ (fun x s => s = σ ∧ x = bX t n i) := by
  obtain ⟨a1, a2, a3, a4⟩ := h
  refine S_Parser_byteAt a1 ⟨fun z => absurd z (nI_pos hi), fun _ => ?_⟩
  rw [a2]
  refine ⟨fun z => ?_, fun z => ?_⟩
  · refine ⟨rfl, rfl, ?_⟩
    unfold bX
    rw [if_neg]
    intro c
    exact nI_ge c (by omega) z
  · have c : i < n := by
      rcases Nat.lt_or_ge i n with c | c
      · exact c
      · exact absurd (nI_le c hi) z
    refine ⟨by decide, vp_in_nI (by omega) (by omega), rfl, rfl, ?_⟩
    rw [nI_clamp hi, a3 i c, bI_X]
    unfold bX
    rw [if_pos c]
theorem p_letter {d c : Nat} {σ : fkS} (hc : c < 2 ^ 31) : Di d 149 [.int (nI c)] σ (fun x s => s = σ ∧ x = if cL c then 1 else 0) := by
  refine S_Parser_isLetter ⟨fun z => ⟨rfl, rfl, ?_⟩, fun z => ⟨fun z2 => ⟨rfl, rfl, ?_⟩, fun z2 => ⟨rfl, rfl, ?_⟩⟩⟩
  · have : c < 97 := by
      rcases Nat.lt_or_ge c 97 with q | q
      · exact q
      · exact absurd z (nI_nlt (a := c) (b := 97) q hc)
    have e : cL c = false := by unfold cL; simp; omega
    rw [e]; rfl
  · have : 122 < c := by
      rcases Nat.lt_or_ge 122 c with q | q
      · exact q
      · exact absurd z2 (nI_nlt (a := 122) (b := c) q (by omega))
    have e : cL c = false := by unfold cL; simp; omega
    rw [e]; rfl
  · have e : cL c = true := by
      have q1 : 97 ≤ c := by
        rcases Nat.lt_or_ge c 97 with q | q
        · exact absurd (nI_lt q (by omega)) z
        · exact q
      have q2 : c ≤ 122 := by
        rcases Nat.lt_or_ge 122 c with q | q
        · exact absurd (nI_lt q hc) z2
        · exact q
      unfold cL; simp; omega
    rw [e]; rfl
theorem p_digit {d c : Nat} {σ : fkS} (hc : c < 2 ^ 31) : Di d 151 [.int (nI c)] σ (fun x s => s = σ ∧ x = if cD c then 1 else 0) := by
  refine S_Parser_isDigit ⟨fun z => ⟨rfl, rfl, ?_⟩, fun z => ⟨fun z2 => ⟨rfl, rfl, ?_⟩, fun z2 => ⟨rfl, rfl, ?_⟩⟩⟩
  · have : c < 48 := by
      rcases Nat.lt_or_ge c 48 with q | q
      · exact q
      · exact absurd z (nI_nlt (a := c) (b := 48) q hc)
    have e : cD c = false := by unfold cD; simp; omega
    rw [e]; rfl
  · have : 57 < c := by
      rcases Nat.lt_or_ge 57 c with q | q
      · exact q
      · exact absurd z2 (nI_nlt (a := 57) (b := c) q (by omega))
    have e : cD c = false := by unfold cD; simp; omega
    rw [e]; rfl
  · have e : cD c = true := by
      have q1 : 48 ≤ c := by
        rcases Nat.lt_or_ge c 48 with q | q
        · exact absurd (nI_lt q (by omega)) z
        · exact q
      have q2 : c ≤ 57 := by
        rcases Nat.lt_or_ge 57 c with q | q
        · exact absurd (nI_lt q hc) z2
        · exact q
      unfold cD; simp; omega
    rw [e]; rfl
def fkP3 (c j : Nat) : Bool := Nat.beq c 88 && Nat.beq j 3
/-- blanks -/
theorem p_blanksW {d n : Nat} {t : Nat → UInt8} : ∀ (p : Nat) (σ : fkS), PTx t n σ → σ.1 88 3 = nI p → p ≤ n → Wq 146 d 0 [some (.ref 88)] [] σ (Qv (fun s => s.2.2 = σ.2.2 ∧ Fr fkP3 σ s ∧ s.1 88 3 = nI (runP cB t n p))) := by
  refine runP_ind (f := cB) (t := t) (n := n) _ (fun p hp hf ih σ h h3 hn => ?_) (fun p hp σ h h3 hn => ?_)
  · obtain ⟨a1, a2, a3, a4⟩ := id h
    have e : (nI p).toNatClampNeg = p := nI_clamp (by omega)
    have go : ∀ {P : Prop}, P → (¬ (2 : Nat) = 0 ∧ (vp_in (nI p) 4000 ∧ P)) := fun z => ⟨by decide, vp_in_nI (by omega) (by omega), z⟩
    have nx : Wq 146 d 0 [some (.ref 88)] [] (sI σ 88 3 (nI p + 1)) (Qv (fun s => s.2.2 = σ.2.2 ∧ Fr fkP3 σ s ∧ s.1 88 3 = nI (runP cB t n p))) := by
      have e2 : nI p + 1 = nI (p + 1) := (nI_succ p).symm
      rw [e2, runP_on hp hf]
      have f0 : Fr fkP3 σ (sI σ 88 3 (nI (p + 1))) := Fr.rf.sI rfl
      refine (ih _ (h.fr f0 (fun _ => rfl) rfl rfl) sI_ss hp).mono fun x s hx => ?_
      obtain ⟨rfl, e3, e4, e5⟩ := Qv_s hx
      exact ⟨e3, f0.tr e4, e5⟩
    refine S_Parser_skipBlanks_0 a1 ⟨fun z => ?_, fun _ => ?_⟩
    · rw [a2, h3] at z
      exact absurd z (nI_ge hp (by omega))
    · rw [h3, e, a3 p hp]
      refine go ⟨fun _ => nx, fun z => go ⟨fun z2 => ?_, fun _ => nx⟩⟩
      have q := hf
      unfold cB at q
      simp only [Bool.or_eq_true, beq_iff_eq] at q
      rcases q with q | q
      · exact absurd ((i8_blank (t p)).1.mpr q) z
      · exact absurd ((i8_blank (t p)).2.mpr q) z2
  · obtain ⟨a1, a2, a3, a4⟩ := id h
    rw [runP_off hp]
    have e : (nI p).toNatClampNeg = p := nI_clamp (by omega)
    refine S_Parser_skipBlanks_0 a1 ⟨fun z => ⟨rfl, Fr.rf, h3⟩, fun z => ?_⟩
    have c : p < n := by
      rcases Nat.lt_or_ge p n with q | q
      · exact q
      · rw [a2, h3] at z
        exact absurd (nI_le q (by omega)) z
    have hb : ¬ cB (t p).toNat = true := fun q => hp ⟨c, q⟩
    unfold cB at hb
    simp only [Bool.or_eq_true, beq_iff_eq, not_or] at hb
    rw [h3, e, a3 p c]
    refine ⟨by decide, vp_in_nI (by omega) (by omega), fun q => absurd ((i8_blank (t p)).1.mp q) hb.1, fun _ => ⟨by decide, vp_in_nI (by omega) (by omega), fun _ => ⟨rfl, Fr.rf, h3⟩, fun q => absurd ((i8_blank (t p)).2.mp q) hb.2⟩⟩
theorem p_blanks {d n p : Nat} {t : Nat → UInt8} {σ : fkS} (h : PTx t n σ) (h3 : σ.1 88 3 = nI p) (hp : p ≤ n) : Dv d 146 [.ref 88] σ (fun s => Fr fkP3 σ s ∧ s.1 88 3 = nI (runP cB t n p)) := by
  have w := p_blanksW (d := d) p σ h h3 hp
  obtain ⟨a1, a2, a3, a4⟩ := id h
  refine S_Parser_skipBlanks a1 ⟨fun z => ?_, fun z => ?_⟩
  · have c : ¬ p < n := fun q => by rw [a2, h3] at z; exact nI_ge q (by omega) z
    rw [runP_off (fun q => c q.1)]
    exact ⟨rfl, Fr.rf, h3⟩
  · have c : p < n := by
      rcases Nat.lt_or_ge p n with q | q
      · exact q
      · rw [a2, h3] at z
        exact absurd (nI_le q (by omega)) z
    have e : (nI p).toNatClampNeg = p := nI_clamp (by omega)
    have go : ∀ {P : Prop}, P → (¬ (2 : Nat) = 0 ∧ (vp_in (nI p) 4000 ∧ P)) := fun z => ⟨by decide, vp_in_nI (by omega) (by omega), z⟩
    have nx : cB (t p).toNat = true → Wq 146 d 0 [some (.ref 88)] [] (sI σ 88 3 (nI p + 1)) (Qv (fun s => s.2.2 = σ.2.2 ∧ Fr fkP3 σ s ∧ s.1 88 3 = nI (runP cB t n p))) := fun hf => by
      have e2 : nI p + 1 = nI (p + 1) := (nI_succ p).symm
      rw [e2, runP_on c hf]
      have f0 : Fr fkP3 σ (sI σ 88 3 (nI (p + 1))) := Fr.rf.sI rfl
      refine (p_blanksW (p + 1) _ (h.fr f0 (fun _ => rfl) rfl rfl) sI_ss c).mono fun x s hx => ?_
      obtain ⟨rfl, e3, e4, e5⟩ := Qv_s hx
      exact ⟨e3, f0.tr e4, e5⟩
    rw [h3, e, a3 p c]
    refine go ⟨fun q => nx (by unfold cB; rw [(i8_blank (t p)).1.mp q]; rfl), fun z => go ⟨fun z2 => ?_, fun q => nx (by unfold cB; rw [(i8_blank (t p)).2.mp q]; rfl)⟩⟩
    rw [runP_off (fun q => by
      have hb := q.2
      unfold cB at hb
      simp only [Bool.or_eq_true, beq_iff_eq] at hb
      rcases hb with hb | hb
      · exact z ((i8_blank (t p)).1.mpr hb)
      · exact z2 ((i8_blank (t p)).2.mpr hb))]
    exact ⟨rfl, Fr.rf, h3⟩
