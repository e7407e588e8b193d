/-! READING NUMBERS. The picture: the bytes t, a place, an end. -/
/-- a byte as both sides have it in their hands -/
def bI (b : UInt8) : Int32 := Int32.ofNat b.toNat
theorem bI_X (b : UInt8) : b.toInt8.toInt32 &&& 255 = bI b := by
  have key : ∀ x : BitVec 8, x.signExtend 32 &&& 255#32 = BitVec.ofNat 32 x.toNat := by decide +kernel
  apply Int32.toBitVec_inj.mp
  rw [Int32.toBitVec_and]
  exact key b.toBitVec
theorem bI_lt {b : UInt8} {n : Nat} (hn : n < 2 ^ 31) : bI b < nI n ↔ b.toNat < n := nI_ltI (a := b.toNat) (by have := b.toNat_lt; omega) hn
theorem bI_le {b : UInt8} {n : Nat} (hn : n < 2 ^ 31) : nI n ≤ bI b ↔ n ≤ b.toNat := nI_leI (b := b.toNat) hn (by have := b.toNat_lt; omega)
theorem bI_ge {b : UInt8} {n : Nat} (hn : n < 2 ^ 31) : bI b ≤ nI n ↔ b.toNat ≤ n := nI_leI (a := b.toNat) (by have := b.toNat_lt; omega) hn
/-- one byte's worth of a number -/
def u7 (acc : Int64) (b : UInt8) (k : Nat) : Int64 := acc ||| fk_lshl ((bI b &&& (127 : Int32)).toInt64) ((7 : Int32) * nI k)
/-- an unsigned number, with f bytes at most still to come -/
def u32 (t : Nat → UInt8) (e : Nat) : Nat → Nat → Int64 → Option (Int64 × Nat)
  | 0, _, _ => none
  | f + 1, p, acc => if p < e then
      (if f = 0 ∧ 16 ≤ (t p).toNat then none else if 128 ≤ (t p).toNat then u32 t e f (p + 1) (u7 acc (t p) (4 - f)) else some (u7 acc (t p) (4 - f), p + 1))
    else none
/-- the reader of the class stands in its text -/
def RX (t : Nat → UInt8) (n e p : Nat) (σ : fkS) : Prop := σ.2.2 46 0 = 26 ∧ (∀ k, k < n → σ.1 25 k = (t k).toInt8.toInt32) ∧ n ≤ 4000 ∧ e ≤ n ∧ σ.1 46 2 = nI e ∧ σ.1 46 1 = nI p ∧ p ≤ 4000 ∧ (σ.1 46 3 = 0 → σ.1 46 4 = -1)
def flX (σ : fkS) (w q : Int32) : fkS := if σ.1 46 3 = 0 then sI (sI σ 46 3 w) 46 4 q else σ
theorem flX_r (σ : fkS) (w q : Int32) : (flX σ w q).2.2 = σ.2.2 := by
  unfold flX
  split <;> rfl
theorem c_fail {d : Nat} {w q : Int32} {σ : fkS} : Dv d 22 [.ref 46, .int w, .int q] σ (fun σ' => σ' = flX σ w q) := by
  refine S_Scan_fail ⟨fun z => ⟨rfl, ?_⟩, fun z => ⟨rfl, ?_⟩⟩
  · unfold flX
    rw [if_neg z]
  · unfold flX
    rw [if_pos z]
theorem RX.at {t : Nat → UInt8} {n e p q : Nat} {σ : fkS} (h : RX t n e p σ) (hq : q ≤ 4000) : RX t n e q (sI σ 46 1 (nI q)) := by
  obtain ⟨h1, h2, h3, h4, h5, h6, h7, h8⟩ := h
  refine ⟨h1, fun k hk => ?_, h3, h4, ?_, sI_ss, hq, ?_⟩
  · rw [sI_o (by decide)]
    exact h2 k hk
  · rw [sI_so (by decide)]
    exact h5
  · rw [sI_so (by decide), sI_so (by decide)]
    exact h8
theorem sI_sI {σ : fkS} {c j : Nat} {v w : Int32} : sI (sI σ c j v) c j w = sI σ c j w := by
  unfold sI
  refine Prod.ext ?_ rfl
  funext a b
  by_cases e : a = c <;> by_cases e2 : b = j <;> simp [e, e2]
theorem sI_id {σ : fkS} {c j : Nat} {v : Int32} (h : σ.1 c j = v) : sI σ c j v = σ := by
  unfold sI
  refine Prod.ext ?_ rfl
  funext a b
  subst h
  by_cases e : a = c <;> by_cases e2 : b = j <;> simp [e, e2]
theorem Wq.mono {k d pc : Nat} {ls : List (Option Value)} {st : List Value} {σ : fkS} {Q Q2 : Option Value → fkS → Prop} (h : Wq k d pc ls st σ Q) (hq : ∀ x σ2, Q x σ2 → Q2 x σ2) : Wq k d pc ls st σ Q2 := by
  intro g p l e s m args below meth c H locs lsM X hP hS hl T hT Xs
  obtain ⟨t, a, o, b1, b2, b3, b4⟩ := h g p l e s m args below meth c H locs lsM X hP hS hl T hT Xs
  obtain ⟨⟨r, σ', h1, h2, h3⟩, h4⟩ := b3
  exact ⟨t, a, o, b1, b2, ⟨⟨r, σ', h1, hq r σ' h2, h3⟩, h4⟩, b4⟩
/-- what comes of reading an unsigned number -/
def uX (t : Nat → UInt8) (e p f : Nat) (acc : Int64) (σ : fkS) (w : Nat) (r : Int64) (σ' : fkS) : Prop := match u32 t e f p acc with
  | some (v, q) => r = v ∧ σ' = sI σ 46 1 (nI q)
  | none => r = 0 ∧ ∃ q, p ≤ q ∧ (q ≤ e ∨ q = p) ∧ σ' = flX (sI σ 46 1 (nI q)) (-1) (nI w)
theorem w_unsigned {d n e w : Nat} {t : Nat → UInt8} : ∀ (f k p : Nat) (acc : Int64) (σ : fkS), k + f = 5 → RX t n e p σ → Wq 26 (d + 1) 10 [some (.ref 46), some (.int (nI w)), some (.long acc), none, some (.int (nI k)), none] [] σ (Qj fun r σ' => σ'.2.2 = σ.2.2 ∧ uX t e p f acc σ w r σ')
  | 0, k, p, acc, σ, hk, h => by
    refine S_Scan_unsigned_10 h.1 ⟨fun _ => ?_, fun z => absurd (nI_leI (a := 5) (by decide) (by omega) |>.mpr (by omega)) z⟩
    refine c_fail.mono fun x σ1 hx => ?_
    obtain ⟨rfl, e1, rfl⟩ := Qv_s hx
    refine ⟨e1, ?_⟩
    simp only [sW_eq e1]
    refine ⟨e1, ?_⟩
    unfold uX u32
    exact ⟨rfl, p, Nat.le_refl _, Or.inr rfl, by rw [sI_id h.2.2.2.2.2.1]⟩
  | f + 1, k, p, acc, σ, hk, h => by
    have hn := h.2.2.1
    have he := h.2.2.2.1
    have hp : p < 2 ^ 31 := by have := h.2.2.2.2.2.2; omega
    refine S_Scan_unsigned_10 h.1 ⟨fun z => absurd ((nI_leI (a := 5) (by decide) (by omega)).mp z) (by omega), fun _ => ⟨fun z => ?_, fun z => ?_⟩⟩
    · rw [h.2.2.2.2.1, h.2.2.2.2.2.1] at z
      have hz : e ≤ p := by
        refine Nat.not_lt.mp fun y => ?_
        exact nI_ge y (by omega) z
      refine c_fail.mono fun x σ1 hx => ?_
      obtain ⟨rfl, e1, rfl⟩ := Qv_s hx
      refine ⟨e1, ?_⟩
      simp only [sW_eq e1]
      refine ⟨e1, ?_⟩
      unfold uX u32
      rw [if_neg (by omega)]
      exact ⟨rfl, p, Nat.le_refl _, Or.inr rfl, by rw [sI_id h.2.2.2.2.2.1]⟩
    · rw [h.2.2.2.2.1, h.2.2.2.2.2.1] at z
      have hz : p < e := by
        refine Nat.not_le.mp fun y => ?_
        exact z (nI_le y hp)
      have hb : (σ.1 25 ((σ.1 46 1).toNatClampNeg)) &&& (255 : Int32) = bI (t p) := by
        rw [h.2.2.2.2.2.1, nI_clamp hp, h.2.1 p (by omega)]
        exact bI_X _
      have h1 : RX t n e (p + 1) (sI σ 46 1 (nI (p + 1))) := h.at (by omega)
      have go : ¬ (f = 0 ∧ 16 ≤ (t p).toNat) → Wq 26 (d + 1) 68 [some (.ref 46), some (.int (nI w)), some (.long acc), none, some (.int (nI k)), some (.int (bI (t p)))] [] (sI σ 46 1 (nI (p + 1))) (Qj fun r σ' => σ'.2.2 = σ.2.2 ∧ uX t e p (f + 1) acc σ w r σ') := by
        intro hf
        have ek : 4 - f = k := by omega
        refine S_Scan_unsigned_68 ⟨fun y => ?_, fun y => ?_⟩
        · have y1 := (bI_le (b := t p) (n := 128) (by decide)).mp y
          have ih := w_unsigned (d := d) (w := w) f (k + 1) (p + 1) (u7 acc (t p) k) (sI σ 46 1 (nI (p + 1))) (by omega) h1
          rw [show nI (k + 1) = nI k + 1 from nI_succ k] at ih
          refine ih.mono fun x σ' hx => ?_
          obtain ⟨r, rfl, hr, hu⟩ := Qj_s hx
          refine ⟨hr, ?_⟩
          unfold uX at hu ⊢
          rw [u32, if_pos hz, if_neg hf, if_pos y1, ek]
          split at hu
          next v q hq =>
            exact ⟨hu.1, by rw [hu.2, sI_sI]⟩
          next hq =>
            obtain ⟨rfl, q, q1, q2, rfl⟩ := hu
            exact ⟨rfl, q, by omega, by omega, by rw [sI_sI]⟩
        · have y1 : ¬ 128 ≤ (t p).toNat := fun y2 => y ((bI_le (b := t p) (n := 128) (by decide)).mpr y2)
          refine ⟨rfl, ?_⟩
          unfold uX
          rw [u32, if_pos hz, if_neg hf, if_neg y1, ek]
          exact ⟨rfl, rfl⟩
      refine ⟨by decide, ?_, ?_⟩
      · rw [h.2.2.2.2.2.1]
        exact vp_in_nI (by omega) (by decide)
      · rw [hb, h.2.2.2.2.2.1, show nI p + 1 = nI (p + 1) from nI_1 p]
        refine ⟨fun y => go fun y2 => y ?_, fun y => ⟨fun y2 => go fun y3 => ?_, fun y2 => ?_⟩⟩
        · have : k = 4 := by omega
          rw [this]
          rfl
        · have := (bI_lt (b := t p) (n := 16) (by decide)).mp y2
          omega
        · have hk4 : k = 4 := (nI_eq (b := 4) (by omega) (by decide)).mp y
          have h16 : 16 ≤ (t p).toNat := Nat.not_lt.mp fun y3 => y2 ((bI_lt (b := t p) (n := 16) (by decide)).mpr y3)
          refine c_fail.mono fun x σ1 hx => ?_
          obtain ⟨rfl, e1, rfl⟩ := Qv_s hx
          have e2 : (flX (sI σ 46 1 (nI (p + 1))) (-1) (nI w)).2.2 = σ.2.2 := e1
          refine ⟨e1, ?_⟩
          simp only [sW_eq e2]
          refine ⟨e2, ?_⟩
          unfold uX
          rw [u32, if_pos hz, if_pos ⟨by omega, h16⟩]
          exact ⟨rfl, p + 1, by omega, by omega, rfl⟩
