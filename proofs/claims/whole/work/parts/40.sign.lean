/-! A NUMBER WITH A SIGN -/
def sMo (W : Bool) : Nat := cond W 5 10
def sLi (W : Bool) : Int32 := cond W 120 127
def sLk (W : Bool) (b : Nat) : Bool := cond W (decide (b < 8) || decide (120 ≤ b)) (decide (b = 0) || decide (b = 127))
/-- the class's way to put the sign -/
def sExX (v : Int64) (b : UInt8) (k : Nat) : Int64 := if (bI b &&& (64 : Int32)) = 0 then v else if (64 : Int32) ≤ (((7 : Int32) * nI k) + (7 : Int32)) then v else v ||| (fk_lshl (Int64.ofNat 18446744073709551615) (((7 : Int32) * nI k) + (7 : Int32)))
/-- the reference's -/
def sExM (v : Int64) (k : Nat) : Int64 := if ((7 : Int32) * (nI k + (1 : Int32))) < (64 : Int32) then fk_lshr (fk_lshl v ((64 : Int32) - ((7 : Int32) * (nI k + (1 : Int32))))) ((64 : Int32) - ((7 : Int32) * (nI k + (1 : Int32)))) else v
def sg (W : Bool) (t : Nat → UInt8) (e : Nat) : Nat → Nat → Int64 → Option (Int64 × Nat)
  | 0, _, _ => none
  | f + 1, p, acc => if p < e then
      (if 128 ≤ (t p).toNat then sg W t e f (p + 1) (u7 acc (t p) (sMo W - (f + 1)))
       else if f = 0 ∧ sLk W (t p).toNat = false then none
       else some (sExX (u7 acc (t p) (sMo W - (f + 1))) (t p) (sMo W - (f + 1)), p + 1))
    else none
theorem sg_le {W : Bool} {t : Nat → UInt8} {e : Nat} : ∀ (f p : Nat) (acc v : Int64) (q : Nat), sg W t e f p acc = some (v, q) → p < q ∧ q ≤ e
  | 0, p, acc, v, q, h => by cases h
  | f + 1, p, acc, v, q, h => by
    rw [sg] at h
    split at h
    next hz =>
      split at h
      · have := sg_le f (p + 1) _ v q h
        omega
      · split at h
        · cases h
        · have h2 := Option.some.inj h
          have h3 : p + 1 = q := congrArg Prod.snd h2
          omega
    · cases h
theorem b_128 (b : UInt8) : (bI b &&& (128 : Int32)) = 0 ↔ b.toNat < 128 := by
  have key : ∀ x : BitVec 8, (BitVec.ofNat 32 x.toNat &&& 128#32 = 0#32) ↔ x.toNat < 128 := by decide +kernel
  rw [← Int32.toBitVec_inj, Int32.toBitVec_and]
  exact key b.toBitVec
theorem b_64 (b : UInt8) : (bI b &&& (64 : Int32)) = 0 ↔ b.toNat.testBit 6 = false := by
  have key : ∀ x : BitVec 8, (BitVec.ofNat 32 x.toNat &&& 64#32 = 0#32) ↔ x.toNat.testBit 6 = false := by decide +kernel
  rw [← Int32.toBitVec_inj, Int32.toBitVec_and]
  exact key b.toBitVec
theorem b_120 (b : UInt8) (h : b.toNat < 128) : ((bI b &&& (120 : Int32)) = 0 ∨ (bI b &&& (120 : Int32)) = 120) ↔ (b.toNat < 8 ∨ 120 ≤ b.toNat) := by
  have key : ∀ x : BitVec 8, x.toNat < 128 → ((BitVec.ofNat 32 x.toNat &&& 120#32 = 0#32 ∨ BitVec.ofNat 32 x.toNat &&& 120#32 = 120#32) ↔ (x.toNat < 8 ∨ 120 ≤ x.toNat)) := by decide +kernel
  rw [← Int32.toBitVec_inj, ← Int32.toBitVec_inj, Int32.toBitVec_and]
  exact key b.toBitVec h
theorem b_127 (b : UInt8) (h : b.toNat < 128) : ((bI b &&& (127 : Int32)) = 0 ∨ (bI b &&& (127 : Int32)) = 127) ↔ (b.toNat = 0 ∨ b.toNat = 127) := by
  have key : ∀ x : BitVec 8, x.toNat < 128 → ((BitVec.ofNat 32 x.toNat &&& 127#32 = 0#32 ∨ BitVec.ofNat 32 x.toNat &&& 127#32 = 127#32) ↔ (x.toNat = 0 ∨ x.toNat = 127)) := by decide +kernel
  rw [← Int32.toBitVec_inj, ← Int32.toBitVec_inj, Int32.toBitVec_and]
  exact key b.toBitVec h
theorem sLk_X (W : Bool) (b : UInt8) (h : b.toNat < 128) : ((bI b &&& sLi W) = 0 ∨ (bI b &&& sLi W) = sLi W) ↔ sLk W b.toNat = true := by
  cases W
  · refine (b_127 b h).trans ?_
    simp [sLk]
  · refine (b_120 b h).trans ?_
    simp [sLk]
theorem b_sh3 (b : UInt8) : bI b >>> ((3 : Int32) &&& 31) = nI (b.toNat / 8) := by
  have key : ∀ x : BitVec 8, (BitVec.ofNat 32 x.toNat).sshiftRight 3 = BitVec.ofNat 32 (x.toNat / 8) := by decide +kernel
  apply Int32.toBitVec_inj.mp
  rw [Int32.toBitVec_shiftRight]
  exact key b.toBitVec
/-- what comes of it, in the class -/
def gX (W : Bool) (t : Nat → UInt8) (e p f : Nat) (acc : Int64) (σ : fkS) (w : Nat) (r : Int64) (σ' : fkS) : Prop := match sg W t e f p acc with
  | some (v, q) => r = v ∧ σ' = sI σ 46 1 (nI q)
  | none => r = 0 ∧ ∃ q, p ≤ q ∧ (q ≤ e ∨ q = p) ∧ σ' = flX (sI σ 46 1 (nI q)) (-1) (nI w)
theorem w_signed {d n e w : Nat} {W : Bool} {t : Nat → UInt8} : ∀ (f k p : Nat) (acc : Int64) (σ : fkS), k + f = sMo W → RX t n e p σ → Wq 43 (d + 1) 39 [some (.ref 46), none, some (.int (nI w)), some (.int (nI (sMo W))), some (.int (sLi W)), some (.long acc), none, some (.int (nI k)), none, none] [] σ (Qj fun r σ' => σ'.2.2 = σ.2.2 ∧ gX W t e p f acc σ w r σ')
  | 0, k, p, acc, σ, hk, h => by
    have hm : sMo W ≤ 10 := by cases W <;> decide
    refine S_Scan_signed_39 h.1 ⟨fun _ => ?_, fun z => absurd (nI_leI (a := sMo W) (by omega) (by omega) |>.mpr (by omega)) z⟩
    refine c_fail.mono fun x σ1 hx => ?_
    obtain ⟨rfl, e1, rfl⟩ := Qv_s hx
    refine ⟨e1, ?_⟩
    simp only [sW_eq e1]
    refine ⟨e1, ?_⟩
    unfold gX sg
    exact ⟨rfl, p, Nat.le_refl _, Or.inr rfl, by rw [sI_id h.2.2.2.2.2.1]⟩
  | f + 1, k, p, acc, σ, hk, h => by
    have hm : sMo W ≤ 10 := by cases W <;> decide
    have hn := h.2.2.1
    have he := h.2.2.2.1
    have hp : p < 2 ^ 31 := by have := h.2.2.2.2.2.2; omega
    refine S_Scan_signed_39 h.1 ⟨fun z => absurd ((nI_leI (by omega) (by omega)).mp z) (by omega), fun _ => ⟨fun z => ?_, fun z => ?_⟩⟩
    · rw [h.2.2.2.2.1, h.2.2.2.2.2.1] at z
      have hz : e ≤ p := Nat.not_lt.mp fun y => nI_ge y (by omega) z
      refine c_fail.mono fun x σ1 hx => ?_
      obtain ⟨rfl, e1, rfl⟩ := Qv_s hx
      refine ⟨e1, ?_⟩
      simp only [sW_eq e1]
      refine ⟨e1, ?_⟩
      unfold gX sg
      rw [if_neg (by omega)]
      exact ⟨rfl, p, Nat.le_refl _, Or.inr rfl, by rw [sI_id h.2.2.2.2.2.1]⟩
    · rw [h.2.2.2.2.1, h.2.2.2.2.2.1] at z
      have hz : p < e := Nat.not_le.mp fun y => z (nI_le y hp)
      have hb : (σ.1 25 ((σ.1 46 1).toNatClampNeg)) &&& (255 : Int32) = bI (t p) := by
        rw [h.2.2.2.2.2.1, nI_clamp hp, h.2.1 p (by omega)]
        exact bI_X _
      have h1 : RX t n e (p + 1) (sI σ 46 1 (nI (p + 1))) := h.at (by omega)
      have ek : sMo W - (f + 1) = k := by omega
      have go : (128 ≤ (t p).toNat ∨ ¬ (f = 0 ∧ sLk W (t p).toNat = false)) → Wq 43 (d + 1) 119 [some (.ref 46), none, some (.int (nI w)), some (.int (nI (sMo W))), some (.int (sLi W)), some (.long acc), none, some (.int (nI k)), some (.int (bI (t p))), none] [] (sI σ 46 1 (nI (p + 1))) (Qj fun r σ' => σ'.2.2 = σ.2.2 ∧ gX W t e p (f + 1) acc σ w r σ') := by
        intro hf
        refine S_Scan_signed_119 ⟨fun y => ?_, fun y => ?_⟩
        · have y1 := (bI_le (b := t p) (n := 128) (by decide)).mp y
          have ih := w_signed (d := d) (w := w) (W := W) f (k + 1) (p + 1) (u7 acc (t p) k) (sI σ 46 1 (nI (p + 1))) (by omega) h1
          rw [show nI (k + 1) = nI k + 1 from nI_succ k] at ih
          refine ih.mono fun x σ' hx => ?_
          obtain ⟨r, rfl, hr, hu⟩ := Qj_s hx
          refine ⟨hr, ?_⟩
          unfold gX at hu ⊢
          rw [sg, if_pos hz, if_pos y1, ek]
          split at hu
          next v q hq => exact ⟨hu.1, by rw [hu.2, sI_sI]⟩
          next hq =>
            obtain ⟨rfl, q, q1, q2, rfl⟩ := hu
            exact ⟨rfl, q, by omega, by omega, by rw [sI_sI]⟩
        · have y1 : ¬ 128 ≤ (t p).toNat := fun y2 => y ((bI_le (b := t p) (n := 128) (by decide)).mpr y2)
          have y2 : ¬ (f = 0 ∧ sLk W (t p).toNat = false) := hf.resolve_left y1
          have fin : ∀ v, v = sExX (u7 acc (t p) k) (t p) k → (sI σ 46 1 (nI (p + 1))).2.2 = σ.2.2 ∧ gX W t e p (f + 1) acc σ w v (sI σ 46 1 (nI (p + 1))) := by
            intro v hv
            refine ⟨rfl, ?_⟩
            unfold gX
            rw [sg, if_pos hz, if_neg y1, if_neg y2, ek]
            exact ⟨hv, rfl⟩
          refine ⟨fun z1 => ?_, fun z1 => ⟨fun z2 => ?_, fun z2 => ?_⟩⟩
          · refine S_Scan_signed_170 ⟨fun _ => fin _ ?_, fun z => absurd rfl z⟩
            unfold sExX u7
            rw [if_pos z1]
          · refine S_Scan_signed_170 ⟨fun _ => fin _ ?_, fun z => absurd rfl z⟩
            unfold sExX u7
            rw [if_neg z1, if_pos z2]
          · refine S_Scan_signed_170 ⟨fun z => absurd z (by decide), fun _ => fin _ ?_⟩
            unfold sExX u7
            rw [if_neg z1, if_neg z2]
      refine ⟨by decide, ?_, ?_⟩
      · rw [h.2.2.2.2.2.1]
        exact vp_in_nI (by omega) (by decide)
      · rw [hb, h.2.2.2.2.2.1, show nI p + 1 = nI (p + 1) from nI_1 p]
        have em : nI (sMo W) - (1 : Int32) = nI (sMo W - 1) := nI_sub (b := 1) (by omega)
        rw [em]
        refine ⟨fun y => go (Or.inr fun y2 => y ?_), fun y => ⟨fun y2 => go (Or.inl ?_), fun y2 => ⟨fun y3 => go ?_, fun y3 => ⟨fun y4 => go ?_, fun y4 => ?_⟩⟩⟩⟩
        · have : k = sMo W - 1 := by omega
          rw [this]
        · exact Nat.not_lt.mp fun y3 => y2 ((b_128 _).mpr y3)
        · have y5 := (b_128 _).mp y2
          have := (sLk_X W _ y5).mp (Or.inl y3)
          exact Or.inr fun y6 => by rw [this] at y6; cases y6.2
        · have y5 := (b_128 _).mp y2
          have := (sLk_X W _ y5).mp (Or.inr y4)
          exact Or.inr fun y6 => by rw [this] at y6; cases y6.2
        · have y5 := (b_128 _).mp y2
          have y6 : sLk W (t p).toNat = false := by
            cases hL : sLk W (t p).toNat
            · rfl
            · exact absurd ((sLk_X W _ y5).mpr hL) (fun o => o.elim y3 y4)
          have hk4 : k = sMo W - 1 := (nI_eq (by omega) (by omega)).mp y
          refine c_fail.mono fun x σ1 hx => ?_
          obtain ⟨rfl, e1, rfl⟩ := Qv_s hx
          have e2 : (flX (sI σ 46 1 (nI (p + 1))) (-1) (nI w)).2.2 = σ.2.2 := e1
          refine ⟨e1, ?_⟩
          simp only [sW_eq e2]
          refine ⟨e2, ?_⟩
          unfold gX
          rw [sg, if_pos hz, if_neg (by omega), if_pos ⟨by omega, y6⟩]
          exact ⟨rfl, p + 1, by omega, by omega, rfl⟩
