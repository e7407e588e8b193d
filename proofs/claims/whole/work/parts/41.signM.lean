/-! A NUMBER WITH A SIGN: both ways to put the sign are one; the reference's side -/
theorem lshl_nat9 {m k : Nat} (hm : m < 128) (hk : k < 9) : fk_lshl (lN m) ((7 : Int32) * nI k) = lN (m * 2 ^ (7 * k)) := by
  have key : ∀ (m : Fin 128) (k : Fin 9), fk_lshl (lN m.val) ((7 : Int32) * nI k.val) = lN (m.val * 2 ^ (7 * k.val)) := by decide +kernel
  exact key ⟨m, hm⟩ ⟨k, hk⟩
theorem u7_nat9 {A k : Nat} {b : UInt8} (hk : k < 9) (hA : A < 2 ^ (7 * k)) : u7 (lN A) b k = lN (A + (b.toNat % 128) * 2 ^ (7 * k)) := by
  unfold u7
  have hm : b.toNat % 128 < 128 := Nat.mod_lt _ (by decide)
  rw [b127, nI_l (by omega), lshl_nat9 hm hk]
  have h1 : (2 : Nat) ^ (7 * k) ≤ 2 ^ 56 := Nat.pow_le_pow_right (by decide) (by omega)
  refine lor_nat hA ?_ (by omega)
  calc b.toNat % 128 * 2 ^ (7 * k) ≤ 127 * 2 ^ 56 := Nat.mul_le_mul (by omega) h1
    _ < 2 ^ 63 := by decide
theorem u7_next {A k m : Nat} (hm : m < 128) (hA : A < 2 ^ (7 * k)) : A + m * 2 ^ (7 * k) < 2 ^ (7 * (k + 1)) := by
  have hp7 : (2 : Nat) ^ (7 * (k + 1)) = 128 * 2 ^ (7 * k) := by
    rw [Nat.mul_add, Nat.pow_add]
    omega
  rw [hp7]
  calc A + m * 2 ^ (7 * k) < 2 ^ (7 * k) + m * 2 ^ (7 * k) := by omega
    _ = (1 + m) * 2 ^ (7 * k) := by rw [Nat.add_mul, Nat.one_mul]
    _ ≤ 128 * 2 ^ (7 * k) := Nat.mul_le_mul_right _ (by omega)
/-- a word of m bits, its sign put in both ways -/
theorem sign_bits {V : BitVec 64} {m : Nat} (hm0 : 0 < m) (hm : m ≤ 63) (hV : ∀ i, m ≤ i → V.getLsbD i = false) :
    ((V <<< (64 - m)).sshiftRight (64 - m)) = if V.getLsbD (m - 1) then V ||| (BitVec.allOnes 64 <<< m) else V := by
  apply BitVec.eq_of_getLsbD_eq
  intro i hi
  have hmsb : (V <<< (64 - m)).msb = V.getLsbD (m - 1) := by
    rw [BitVec.msb_eq_getLsbD_last, BitVec.getLsbD_shiftLeft]
    have h1 : ¬ 63 < 64 - m := by omega
    have h2 : 63 - (64 - m) = m - 1 := by omega
    simp [h1, h2]
  rw [BitVec.getLsbD_sshiftRight, hmsb]
  have h3 : ¬ 64 ≤ i := by omega
  by_cases h : i < m
  · have h4 : 64 - m + i < 64 := by omega
    rw [if_pos h4, BitVec.getLsbD_shiftLeft]
    have h5 : ¬ 64 - m + i < 64 - m := by omega
    have h6 : 64 - m + i - (64 - m) = i := by omega
    split
    · rw [BitVec.getLsbD_or, BitVec.getLsbD_shiftLeft]
      simp [h3, h4, h5, h6, h]
    · simp [h3, h4, h5, h6]
  · have h4 : ¬ 64 - m + i < 64 := by omega
    have h7 : i - m < 64 := by omega
    rw [if_neg h4]
    split
    next hb =>
      rw [BitVec.getLsbD_or, BitVec.getLsbD_shiftLeft, hV i (by omega), BitVec.getLsbD_allOnes]
      simp [h3, hb, hi, h, h7]
    next hb =>
      rw [hV i (by omega)]
      simp [hb]
theorem sh_nat {s : Nat} (hs : s < 64) : ((((nI s).toInt64 &&& (63 : Int64)).toBitVec).smod 64#64).toNat = s := by
  have key : ∀ s : Fin 64, ((((nI s.val).toInt64 &&& (63 : Int64)).toBitVec).smod 64#64).toNat = s.val := by decide +kernel
  exact key ⟨s, hs⟩
theorem fk_lshl_nat {v : Int64} {s : Nat} (hs : s < 64) : (fk_lshl v (nI s)).toBitVec = v.toBitVec <<< s := by
  unfold fk_lshl
  rw [Int64.toBitVec_shiftLeft]
  show v.toBitVec <<< ((((nI s).toInt64 &&& (63 : Int64)).toBitVec).smod 64#64).toNat = _
  rw [sh_nat hs]
theorem fk_lshr_nat {v : Int64} {s : Nat} (hs : s < 64) : (fk_lshr v (nI s)).toBitVec = v.toBitVec.sshiftRight s := by
  unfold fk_lshr
  rw [Int64.toBitVec_shiftRight]
  show v.toBitVec.sshiftRight ((((nI s).toInt64 &&& (63 : Int64)).toBitVec).smod 64#64).toNat = _
  rw [sh_nat hs]
theorem i64_m : (7 : Int32) = nI 7 := rfl
theorem testBit_add {A m j i : Nat} (hA : A < 2 ^ j) (hi : j ≤ i) : (A + m * 2 ^ j).testBit i = m.testBit (i - j) := by
  rw [Nat.add_comm, Nat.mul_comm, Nat.testBit_two_pow_mul_add _ hA, if_neg (by omega)]
theorem sEx_eq {A k : Nat} {b : UInt8} (hk : k < 10) (hb : b.toNat < 128) (hA : A < 2 ^ (7 * k)) : sExX (u7 (lN A) b k) b k = sExM (u7 (lN A) b k) k := by
  have e7 : ((7 : Int32) * nI k) + (7 : Int32) = nI (7 * k + 7) := by rw [show (7 : Int32) = nI 7 from rfl, nI_mul, nI_add]
  have e8 : (7 : Int32) * (nI k + (1 : Int32)) = nI (7 * k + 7) := by rw [show nI k + (1 : Int32) = nI (k + 1) from nI_1 k, show (7 : Int32) = nI 7 from rfl, nI_mul]; congr 1
  unfold sExX sExM
  rw [e7, e8]
  by_cases h9 : k = 9
  · have h1 : (64 : Int32) ≤ nI (7 * k + 7) := nI_le (a := 64) (by omega) (by omega)
    have h2 : ¬ nI (7 * k + 7) < (64 : Int32) := Int32.not_lt.mpr h1
    rw [if_pos h1, if_neg h2]
    split <;> rfl
  · have hk9 : k < 9 := by omega
    have h2 : nI (7 * k + 7) < (64 : Int32) := nI_lt (b := 64) (by omega) (by decide)
    have h1 : ¬ (64 : Int32) ≤ nI (7 * k + 7) := Int32.not_le.mpr h2
    have e9 : (64 : Int32) - nI (7 * k + 7) = nI (64 - (7 * k + 7)) := nI_sub (a := 64) (by omega)
    rw [if_neg h1, if_pos h2, e9]
    have hm : b.toNat % 128 = b.toNat := Nat.mod_eq_of_lt hb
    have eu : u7 (lN A) b k = lN (A + b.toNat * 2 ^ (7 * k)) := by rw [u7_nat9 hk9 hA, hm]
    have hU : A + b.toNat * 2 ^ (7 * k) < 2 ^ (7 * (k + 1)) := u7_next hb hA
    rw [eu]
    generalize hUU : A + b.toNat * 2 ^ (7 * k) = U at hU
    have hT : ∀ i, (lN U).toBitVec.getLsbD i = (decide (i < 64) && U.testBit i) := fun i => by
      show (BitVec.ofNat 64 U).getLsbD i = _
      rw [BitVec.getLsbD_ofNat]
    have hV : ∀ i, 7 * k + 7 ≤ i → (lN U).toBitVec.getLsbD i = false := fun i hi => by
      rw [hT, Nat.testBit_lt_two_pow (Nat.lt_of_lt_of_le hU (Nat.pow_le_pow_right (by decide) (by omega)))]
      exact Bool.and_false _
    have hbit : (lN U).toBitVec.getLsbD (7 * k + 7 - 1) = b.toNat.testBit 6 := by
      rw [hT, ← hUU, testBit_add hA (by omega)]
      have : decide (7 * k + 7 - 1 < 64) = true := decide_eq_true (by omega)
      rw [this, Bool.true_and]
      congr 1
      omega
    have key := sign_bits (V := (lN U).toBitVec) (m := 7 * k + 7) (by omega) (by omega) hV
    apply Int64.toBitVec_inj.mp
    rw [fk_lshr_nat (by omega), fk_lshl_nat (by omega), key, hbit]
    by_cases hb6 : b.toNat.testBit 6 = true
    · have h64 : ¬ (bI b &&& (64 : Int32)) = 0 := fun y => by rw [(b_64 b).mp y] at hb6; cases hb6
      rw [if_neg h64, if_pos hb6, Int64.toBitVec_or, fk_lshl_nat (by omega)]
      rfl
    · have h64 : (bI b &&& (64 : Int32)) = 0 := (b_64 b).mpr (by cases h : b.toNat.testBit 6; rfl; exact absurd h hb6)
      rw [if_pos h64, if_neg hb6]
def gM (W : Bool) (t : Nat → UInt8) (e p f : Nat) (acc : Int64) (σ : fkS) (w : Nat) (r : Int64) (σ' : fkS) : Prop := match sg W t e f p acc with
  | some (v, q) => r = v ∧ σ' = sI σ 103 40 (nI q)
  | none => r = 0 ∧ ∃ q, p ≤ q ∧ (q ≤ e ∨ q = p) ∧ σ' = flM (sI σ 103 40 (nI q)) (-1) (nI w)
def sWd (W : Bool) : Int32 := cond W 32 64
theorem c_like {d : Nat} {W : Bool} {b : UInt8} {σ : fkS} (hb : b.toNat < 128) : Ci d 258 [.int (bI b), .int (sWd W)] σ (fun r σ' => r = (if sLk W b.toNat = true then 1 else 0) ∧ σ' = σ) := by
  cases W
  · refine S_M_isLikeSign ⟨fun _ => ?_, fun z => absurd z (by decide)⟩
    have e1 : sLk false b.toNat = true ↔ (bI b = 0 ∨ bI b = 127) := by
      show sLk false b.toNat = true ↔ (nI b.toNat = nI 0 ∨ nI b.toNat = nI 127)
      rw [nI_eq (by omega) (by decide), nI_eq (by omega) (by decide)]
      simp [sLk]
    refine S_M_isLikeSign_13 ⟨fun z => ?_, fun z => ⟨fun _ => ⟨fun y => ?_, fun y => ?_⟩, fun y => absurd y (by decide)⟩⟩
    · exact ⟨by rw [if_pos (e1.mpr (Or.inl z))], rfl⟩
    · exact ⟨by rw [if_neg (fun o => (e1.mp o).elim z y)], rfl⟩
    · exact ⟨by rw [if_pos (e1.mpr (Or.inr y))], rfl⟩
  · refine S_M_isLikeSign ⟨fun y => absurd rfl y, fun _ => ?_⟩
    rw [b_sh3]
    have e1 : sLk true b.toNat = true ↔ (nI (b.toNat / 8) = 0 ∨ nI (b.toNat / 8) = 15) := by
      rw [show (0 : Int32) = nI 0 from rfl, show (15 : Int32) = nI 15 from rfl]
      rw [nI_eq (by omega) (by decide), nI_eq (by omega) (by decide)]
      simp [sLk]
      omega
    refine S_M_isLikeSign_13 ⟨fun z => ?_, fun z => ⟨fun y => absurd rfl y, fun _ => ⟨fun y => ?_, fun y => ?_⟩⟩⟩
    · exact ⟨by rw [if_pos (e1.mpr (Or.inl z))], rfl⟩
    · exact ⟨by rw [if_neg (fun o => (e1.mp o).elim z y)], rfl⟩
    · exact ⟨by rw [if_pos (e1.mpr (Or.inr y))], rfl⟩
theorem w_signedM {d b n e w : Nat} {W : Bool} {t : Nat → UInt8} : ∀ (f k p A : Nat) (σ : fkS), k + f = sMo W → (k < 10 → A < 2 ^ (7 * k)) → RM t b n e p σ → Wq 257 (d + 1) 33 [some (.ref 103), some (.int (sWd W)), some (.int (nI w)), some (.int (nI (sMo W))), some (.long (lN A)), none, some (.int (nI k)), none, none] [] σ (Qj fun r σ' => gM W t e p f (lN A) σ w r σ')
  | 0, k, p, A, σ, hk, hA, h => by
    have hm : sMo W ≤ 10 := by cases W <;> decide
    refine S_M_signed_33 ⟨fun _ => ?_, fun z => absurd (nI_leI (a := sMo W) (by omega) (by omega) |>.mpr (by omega)) z⟩
    refine c_fails.mono fun x σ1 hx => ?_
    obtain ⟨rfl, rfl⟩ := Qv_s hx
    show gM W t e p 0 (lN A) σ w 0 _
    unfold gM sg
    exact ⟨rfl, p, Nat.le_refl _, Or.inr rfl, by rw [sI_id h.2.2.2.2.2.2.1]⟩
  | f + 1, k, p, A, σ, hk, hA, h => by
    have hm : sMo W ≤ 10 := by cases W <;> decide
    have hn := h.2.2.2.1
    have he := h.2.2.2.2.1
    have hp : p < 2 ^ 31 := by have := h.2.2.2.2.2.2.2; omega
    have hA0 := hA (by omega)
    have ek : sMo W - (f + 1) = k := by omega
    refine S_M_signed_33 ⟨fun z => absurd ((nI_leI (by omega) (by omega)).mp z) (by omega), fun _ => ⟨fun z => ?_, fun z => ?_⟩⟩
    · rw [h.2.2.2.2.2.1, h.2.2.2.2.2.2.1] at z
      have hz : p < e := (nI_ltI hp (by omega)).mp z
      have h1 : RM t b n e (p + 1) (sI σ 103 40 (nI (p + 1))) := h.at (by omega)
      refine (c_here h hz).mono fun x σ2 hx => ?_
      obtain ⟨r, rfl, rfl, rfl⟩ := Qi_s hx
      have e40 : σ2.1 103 40 + 1 = nI (p + 1) := by rw [h.2.2.2.2.2.2.1]; exact nI_1 p
      unfold Qi
      simp only [e40]
      have fin : ¬ 128 ≤ (t p).toNat → ¬ (f = 0 ∧ sLk W (t p).toNat = false) → Wq 257 (d + 1) 121 [none, none, none, none, some (.long (u7 (lN A) (t p) k)), none, some (.int (nI k)), none, none] [] (sI σ2 103 40 (nI (p + 1))) (Qj fun r σ' => gM W t e p (f + 1) (lN A) σ2 w r σ') := by
        intro y1 y2
        have hs : ∀ v, v = sExM (u7 (lN A) (t p) k) k → gM W t e p (f + 1) (lN A) σ2 w v (sI σ2 103 40 (nI (p + 1))) := by
          intro v hv
          unfold gM
          rw [sg, if_pos hz, if_neg y1, if_neg y2, ek, sEx_eq (by omega) (by omega) hA0]
          exact ⟨hv, rfl⟩
        refine S_M_signed_121 ⟨fun z1 => hs _ ?_, fun z1 => hs _ ?_⟩
        · unfold sExM
          rw [if_pos z1]
        · unfold sExM
          rw [if_neg z1]
      have em : nI (sMo W) - (1 : Int32) = nI (sMo W - 1) := nI_sub (b := 1) (by omega)
      rw [em]
      refine ⟨fun y => ⟨fun y2 => ?_, fun y2 => ?_⟩, fun y => ?_⟩
      · have y1 := (bI_ge (b := t p) (n := 127) (by decide)).mp y
        refine fin (by omega) fun y3 => y2 ?_
        have : k = sMo W - 1 := by omega
        rw [this]
      · have y1 := (bI_ge (b := t p) (n := 127) (by decide)).mp y
        have hk4 : k = sMo W - 1 := (nI_eq (by omega) (by omega)).mp y2
        refine (c_like (W := W) (b := t p) (by omega)).mono fun x σ3 hx => ?_
        obtain ⟨r, rfl, rfl, rfl⟩ := Qi_s hx
        refine ⟨fun y3 => fin (by omega) fun y4 => y3 ?_, fun y3 => ?_⟩
        · rw [if_neg (by rw [y4.2]; decide)]
        · refine c_fails.mono fun x σ1 hx => ?_
          obtain ⟨rfl, rfl⟩ := Qv_s hx
          show gM W t e p (f + 1) (lN A) σ2 w 0 _
          have y4 : sLk W (t p).toNat = false := by
            cases hL : sLk W (t p).toNat
            · rfl
            · rw [if_pos hL] at y3
              exact absurd y3 (by decide)
          unfold gM
          rw [sg, if_pos hz, if_neg (by omega), if_pos ⟨by omega, y4⟩]
          exact ⟨rfl, p + 1, by omega, by omega, rfl⟩
      · have y1 : 128 ≤ (t p).toNat := Nat.not_lt.mp fun y2 => y ((bI_ge (b := t p) (n := 127) (by decide)).mpr (by omega))
        have e1 : (lN A ||| (fk_lshl ((bI (t p) &&& (127 : Int32)).toInt64) ((7 : Int32) * nI k))) = u7 (lN A) (t p) k := rfl
        rw [e1]
        have gen : ∀ acc, acc = u7 (lN A) (t p) k → (∃ A2, acc = lN A2 ∧ (k + 1 < 10 → A2 < 2 ^ (7 * (k + 1)))) := by
          intro acc he
          by_cases hk9 : k < 9
          · exact ⟨_, he.trans (u7_nat9 hk9 hA0), fun _ => u7_next (Nat.mod_lt _ (by decide)) hA0⟩
          · exact ⟨acc.toBitVec.toNat, Int64.toBitVec_inj.mp (by show acc.toBitVec = BitVec.ofNat 64 acc.toBitVec.toNat; rw [BitVec.ofNat_toNat, BitVec.setWidth_eq]), fun z => absurd z (by omega)⟩
        obtain ⟨A2, hA2, hA3⟩ := gen _ rfl
        rw [hA2]
        have ih := w_signedM (d := d) (w := w) (W := W) f (k + 1) (p + 1) A2 (sI σ2 103 40 (nI (p + 1))) (by omega) hA3 h1
        rw [show nI (k + 1) = nI k + 1 from nI_succ k] at ih
        refine ih.mono fun x σ' hx => ?_
        obtain ⟨r, rfl, hu⟩ := Qj_s hx
        show gM W t e p (f + 1) (lN A) σ2 w r σ'
        unfold gM at hu ⊢
        rw [sg, if_pos hz, if_pos y1, ek, hA2]
        split at hu
        next v q hq => exact ⟨hu.1, by rw [hu.2, sI_sI]⟩
        next hq =>
          obtain ⟨rfl, q, q1, q2, rfl⟩ := hu
          exact ⟨rfl, q, by omega, by omega, by rw [sI_sI]⟩
    · rw [h.2.2.2.2.2.1, h.2.2.2.2.2.2.1] at z
      have hz : e ≤ p := Nat.not_lt.mp fun y => z ((nI_ltI hp (by omega)).mpr y)
      refine c_fails.mono fun x σ1 hx => ?_
      obtain ⟨rfl, rfl⟩ := Qv_s hx
      show gM W t e p (f + 1) (lN A) σ w 0 _
      unfold gM sg
      rw [if_neg (by omega)]
      exact ⟨rfl, p, Nat.le_refl _, Or.inr rfl, by rw [sI_id h.2.2.2.2.2.2.1]⟩
