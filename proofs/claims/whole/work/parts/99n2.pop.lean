/-! NUMBERS: ones, byte by byte -/
def bw (f : Nat → Nat) : Nat → Nat → Nat
  | 0, _ => 0
  | k + 1, x => f (x % 256) + 256 * bw f k (x / 256)
/-- byte c k times -/
def mkN (c : Nat) : Nat → Nat
  | 0 => 0
  | k + 1 => c + 256 * mkN c k
def f55 (b : Nat) : Nat := (b / 2) &&& 85
def f1 (b : Nat) : Nat := b - f55 b
def f33a (b : Nat) : Nat := b &&& 51
def f33b (b : Nat) : Nat := (b / 4) &&& 51
def f2 (b : Nat) : Nat := f33a (f1 b) + f33b (f1 b)
def f3 (b : Nat) : Nat := b % 16 + b / 16
theorem and_by {a b A B : Nat} (ha : a < 256) (hb : b < 256) : (a + 256 * A) &&& (b + 256 * B) = (a &&& b) + 256 * (A &&& B) := by
  have h1 : ((a + 256 * A) &&& (b + 256 * B)) % 2 ^ 8 = ((a + 256 * A) % 2 ^ 8) &&& ((b + 256 * B) % 2 ^ 8) := Nat.and_mod_two_pow
  have h2 : ((a + 256 * A) &&& (b + 256 * B)) / 2 ^ 8 = ((a + 256 * A) / 2 ^ 8) &&& ((b + 256 * B) / 2 ^ 8) := Nat.and_div_two_pow
  have e1 : (a + 256 * A) % 2 ^ 8 = a := by omega
  have e2 : (b + 256 * B) % 2 ^ 8 = b := by omega
  have e3 : (a + 256 * A) / 2 ^ 8 = A := by omega
  have e4 : (b + 256 * B) / 2 ^ 8 = B := by omega
  rw [e1, e2] at h1
  rw [e3, e4] at h2
  have := Nat.div_add_mod ((a + 256 * A) &&& (b + 256 * B)) (2 ^ 8)
  rw [h1, h2] at this
  omega
theorem d_512 : ∀ x : Fin 512, (x.val / 2) &&& 85 = f55 (x.val % 256) := by decide +kernel
theorem d_1024 : ∀ x : Fin 1024, (x.val / 4) &&& 51 = f33b (x.val % 256) := by decide +kernel
theorem d_256 : ∀ x : Fin 256, f55 x.val ≤ x.val ∧ f1 x.val < 256 ∧ f2 x.val % 16 ≤ 4 ∧ f2 x.val / 16 ≤ 4 ∧ f2 x.val < 256 ∧ f3 (f2 x.val) = pcN 8 x.val ∧ f33a x.val ≤ 51 ∧ f33b x.val ≤ 51 := by decide +kernel
theorem d_and15 : ∀ x : Fin 256, x.val &&& 15 = x.val % 16 := by decide +kernel
theorem bw_55 : ∀ (k x : Nat), (x / 2) &&& mkN 85 k = bw f55 k x
  | 0, x => Nat.and_zero _
  | k + 1, x => by
    have e : x / 2 = (x / 2) % 256 + 256 * (x / 256 / 2) := by omega
    rw [mkN, e, and_by (Nat.mod_lt _ (by decide)) (by decide), bw_55 k, bw]
    have h := d_512 ⟨x % 512, Nat.mod_lt _ (by decide)⟩
    have e2 : (x % 512) / 2 = (x / 2) % 256 := by omega
    have e3 : (x % 512) % 256 = x % 256 := by omega
    simp only [e2, e3] at h
    rw [h]
theorem bw_33a : ∀ (k x : Nat), x &&& mkN 51 k = bw f33a k x
  | 0, x => Nat.and_zero _
  | k + 1, x => by
    have e : x = x % 256 + 256 * (x / 256) := by omega
    have h : x &&& mkN 51 (k + 1) = (x % 256 + 256 * (x / 256)) &&& (51 + 256 * mkN 51 k) := by rw [← e]; rfl
    rw [h, and_by (Nat.mod_lt _ (by decide)) (by decide), bw_33a k]
    rfl
theorem bw_33b : ∀ (k x : Nat), (x / 4) &&& mkN 51 k = bw f33b k x
  | 0, x => Nat.and_zero _
  | k + 1, x => by
    have e : x / 4 = (x / 4) % 256 + 256 * (x / 256 / 4) := by omega
    rw [mkN, e, and_by (Nat.mod_lt _ (by decide)) (by decide), bw_33b k, bw]
    have h := d_1024 ⟨x % 1024, Nat.mod_lt _ (by decide)⟩
    have e2 : (x % 1024) / 4 = (x / 4) % 256 := by omega
    have e3 : (x % 1024) % 256 = x % 256 := by omega
    simp only [e2, e3] at h
    rw [h]
theorem bw_lt {f : Nat → Nat} (hf : ∀ b, b < 256 → f b < 256) : ∀ (k x : Nat), bw f k x < 256 ^ k
  | 0, _ => Nat.zero_lt_one
  | k + 1, x => by
    have h1 := hf (x % 256) (Nat.mod_lt _ (by decide))
    have h2 := bw_lt hf k (x / 256)
    rw [bw, Nat.pow_succ]
    omega
theorem bw_bw {f h : Nat → Nat} (hh : ∀ b, b < 256 → h b < 256) : ∀ (k x : Nat), bw f k (bw h k x) = bw (fun b => f (h b)) k x
  | 0, _ => rfl
  | k + 1, x => by
    have h1 := hh (x % 256) (Nat.mod_lt _ (by decide))
    have e1 : bw h (k + 1) x % 256 = h (x % 256) := by
      rw [bw]
      omega
    have e2 : bw h (k + 1) x / 256 = bw h k (x / 256) := by
      rw [bw]
      omega
    rw [bw, e1, e2, bw_bw hh k]
    rfl
theorem bw_add (f g : Nat → Nat) : ∀ (k x : Nat), bw f k x + bw g k x = bw (fun b => f b + g b) k x
  | 0, _ => rfl
  | k + 1, x => by
    have := bw_add f g k (x / 256)
    rw [bw, bw, bw]
    omega
theorem bw_cg {f g : Nat → Nat} (h : ∀ b, b < 256 → f b = g b) : ∀ (k x : Nat), bw f k x = bw g k x
  | 0, _ => rfl
  | k + 1, x => by rw [bw, bw, bw_cg h k, h _ (Nat.mod_lt _ (by decide))]
/-- x less a part of each byte -/
theorem bw_sub : ∀ (k x : Nat), x < 256 ^ k → bw f55 k x ≤ x ∧ x - bw f55 k x = bw f1 k x
  | 0, x, h => by
    rw [bw, bw]
    have : x < 1 := h
    omega
  | k + 1, x, h => by
    rw [Nat.pow_succ] at h
    obtain ⟨h1, h2⟩ := bw_sub k (x / 256) (Nat.div_lt_of_lt_mul (by omega))
    have h3 := (d_256 ⟨x % 256, Nat.mod_lt _ (by decide)⟩).1
    have h3 : f55 (x % 256) ≤ x % 256 := h3
    have e : f1 (x % 256) = x % 256 - f55 (x % 256) := rfl
    rw [bw, bw, ← h2, e]
    omega
theorem bw_0f {f : Nat → Nat} (hf : ∀ b, b < 256 → f b % 16 ≤ 4 ∧ f b / 16 ≤ 4) : ∀ (k x : Nat), (bw f k x + bw f k x / 16) &&& mkN 15 k = bw (fun b => f3 (f b)) k x ∧ bw f k x % 16 ≤ 4
  | 0, _ => ⟨by rw [mkN, Nat.and_zero]; rfl, Nat.zero_le _⟩
  | k + 1, x => by
    obtain ⟨h1, h2⟩ := hf (x % 256) (Nat.mod_lt _ (by decide))
    obtain ⟨h3, h4⟩ := bw_0f hf k (x / 256)
    rw [bw]
    generalize hY : bw f k (x / 256) = Y at h3 h4 ⊢
    generalize hb : f (x % 256) = b at h1 h2 ⊢
    refine ⟨?_, by omega⟩
    have e : (b + 256 * Y) + (b + 256 * Y) / 16 = (b + b / 16 + 16 * (Y % 16)) + 256 * (Y + Y / 16) := by omega
    rw [e, mkN, and_by (by omega) (by decide), h3, bw, hb]
    have h5 := d_and15 ⟨b + b / 16 + 16 * (Y % 16), by omega⟩
    have h5 : (b + b / 16 + 16 * (Y % 16)) &&& 15 = (b + b / 16 + 16 * (Y % 16)) % 16 := h5
    rw [h5]
    have e2 : f3 b = b % 16 + b / 16 := rfl
    rw [e2]
    omega
theorem bw_33 (k x : Nat) : (bw f1 k x &&& mkN 51 k) + ((bw f1 k x / 4) &&& mkN 51 k) = bw f2 k x := by
  have h : ∀ b, b < 256 → f1 b < 256 := fun b hb => (d_256 ⟨b, hb⟩).2.1
  rw [bw_33a, bw_33b, bw_bw h, bw_bw h, bw_add]
  rfl
theorem bw_all (k x : Nat) : (bw f2 k x + bw f2 k x / 16) &&& mkN 15 k = bw (pcN 8) k x := by
  rw [(bw_0f (fun b hb => ⟨(d_256 ⟨b, hb⟩).2.2.1, (d_256 ⟨b, hb⟩).2.2.2.1⟩) k x).1]
  exact bw_cg (fun b hb => (d_256 ⟨b, hb⟩).2.2.2.2.2.1) k x
theorem pc_mod : ∀ (w j x : Nat), w ≤ j → pcN w x = pcN w (x % 2 ^ j)
  | 0, _, _, _ => rfl
  | w + 1, j, x, h => by
    rw [pcN, pcN, ← pc_mod w j x (by omega), Nat.testBit_mod_two_pow, decide_eq_true (by omega : w < j), Bool.true_and]
theorem pc_hi : ∀ (w x : Nat), pcN (8 + w) x = pcN 8 (x % 256) + pcN w (x / 256)
  | 0, x => pc_mod 8 8 x (Nat.le_refl _)
  | w + 1, x => by
    have e : (x / 256).testBit w = x.testBit (8 + w) := by
      have := Nat.testBit_div_two_pow (i := w) (n := 8) x
      rw [show (2 : Nat) ^ 8 = 256 from rfl] at this
      rw [this, Nat.add_comm]
    have e1 : pcN (8 + w + 1) x = pcN (8 + w) x + (if x.testBit (8 + w) then 1 else 0) := rfl
    have e2 : pcN (w + 1) (x / 256) = pcN w (x / 256) + (if (x / 256).testBit w then 1 else 0) := rfl
    rw [← Nat.add_assoc, e1, e2, pc_hi w x, e]
    omega
theorem pc8 (x : Nat) : pcN 8 (x % 256) ≤ 8 := pcN_le _ _
theorem pc_32 (x : Nat) : pcN 32 x = pcN 8 (x % 256) + pcN 8 (x / 256 % 256) + pcN 8 (x / 65536 % 256) + pcN 8 (x / 16777216 % 256) := by
  have e3 : pcN 8 (x / 16777216) = pcN 8 (x / 16777216 % 256) := pc_mod 8 8 _ (Nat.le_refl _)
  rw [show 32 = 8 + 24 from rfl, pc_hi, show 24 = 8 + 16 from rfl, pc_hi, show 16 = 8 + 8 from rfl, pc_hi, show x / 256 / 256 = x / 65536 by omega, show x / 65536 / 256 = x / 16777216 by omega, e3]
  omega
theorem pc_64 (x : Nat) : pcN 64 x = pcN 8 (x % 256) + pcN 8 (x / 256 % 256) + pcN 8 (x / 65536 % 256) + pcN 8 (x / 16777216 % 256) + pcN 32 (x / 4294967296) := by
  rw [show 64 = 8 + 56 from rfl, pc_hi, show 56 = 8 + 48 from rfl, pc_hi, show 48 = 8 + 40 from rfl, pc_hi, show 40 = 8 + 32 from rfl, pc_hi, show x / 256 / 256 = x / 65536 by omega, show x / 65536 / 256 = x / 16777216 by omega, show x / 16777216 / 256 = x / 4294967296 by omega]
  omega
theorem sum4 {x y z w : Nat} (hy : y = bw (pcN 8) 4 x) (hz : z = y + y / 256) (hw : w = z + z / 65536) : z < 2 ^ 32 ∧ w < 2 ^ 32 ∧ w % 64 = pcN 32 x := by
  have e : bw (pcN 8) 4 x = pcN 8 (x % 256) + 256 * (pcN 8 (x / 256 % 256) + 256 * (pcN 8 (x / 256 / 256 % 256) + 256 * (pcN 8 (x / 256 / 256 / 256 % 256) + 256 * 0))) := rfl
  rw [show x / 256 / 256 / 256 = x / 16777216 by omega, show x / 256 / 256 = x / 65536 by omega] at e
  rw [pc_32]
  have h0 := pc8 x
  have h1 := pc8 (x / 256)
  have h2 := pc8 (x / 65536)
  have h3 := pc8 (x / 16777216)
  generalize pcN 8 (x % 256) = p0 at *
  generalize pcN 8 (x / 256 % 256) = p1 at *
  generalize pcN 8 (x / 65536 % 256) = p2 at *
  generalize pcN 8 (x / 16777216 % 256) = p3 at *
  rw [e] at hy
  clear e
  have d1 : y / 256 = p1 + 256 * p2 + 65536 * p3 := by omega
  have hz2 : z = (p0 + p1) + 256 * (p1 + p2) + 65536 * (p2 + p3) + 16777216 * p3 := by omega
  have d2 : z / 65536 = (p2 + p3) + 256 * p3 := by omega
  rw [d2, hz2] at hw
  have hw2 : w = (p0 + p1 + p2 + p3) + 64 * (4 * (p1 + p2 + p3) + 1024 * (p2 + p3) + 262144 * p3) := by omega
  refine ⟨by omega, by omega, by omega⟩
/-! words -/
def u4 (a : Int32) : Nat := a.toBitVec.toNat
theorem u4_lt (a : Int32) : u4 a < 2 ^ 32 := a.toBitVec.isLt
theorem u4_nI {n : Nat} (h : n < 2 ^ 32) : u4 (nI n) = n := (BitVec.toNat_ofNat _ _).trans (Nat.mod_eq_of_lt h)
theorem u4_inj {a b : Int32} (h : u4 a = u4 b) : a = b := Int32.toBitVec_inj.mp (BitVec.eq_of_toNat_eq h)
theorem u4_and (a b : Int32) : u4 (a &&& b) = u4 a &&& u4 b := by
  show (a &&& b).toBitVec.toNat = _
  rw [Int32.toBitVec_and, BitVec.toNat_and]
  rfl
theorem u4_add (a b : Int32) : u4 (a + b) = (u4 a + u4 b) % 2 ^ 32 := by
  show (a + b).toBitVec.toNat = _
  rw [Int32.toBitVec_add, BitVec.toNat_add]
  rfl
theorem u4_sub {a b : Int32} (h : u4 b ≤ u4 a) : u4 (a - b) = u4 a - u4 b := by
  show (a - b).toBitVec.toNat = _
  rw [Int32.toBitVec_sub, BitVec.toNat_sub_of_le h]
  rfl
theorem ush_n {s : Nat} (a : Int32) (hs : s < 32) : (fk_ushr a (nI s)).toBitVec = a.toBitVec >>> s := by
  have key : ∀ k : Fin 32, ((nI k.val).toUInt32 &&& Int32.toUInt32 31).toBitVec.toNat % 32 = k.val := by decide +kernel
  have e := key ⟨s, hs⟩
  have e : ((nI s).toUInt32 &&& Int32.toUInt32 31).toBitVec.toNat % 32 = s := e
  show a.toBitVec >>> (((nI s).toUInt32 &&& Int32.toUInt32 31).toBitVec % 32#32).toNat = _
  rw [BitVec.toNat_umod]
  show a.toBitVec >>> (((nI s).toUInt32 &&& Int32.toUInt32 31).toBitVec.toNat % 32) = _
  rw [e]
theorem u4_ush {s : Nat} (a : Int32) (hs : s < 32) : u4 (fk_ushr a (nI s)) = u4 a / 2 ^ s := by
  show (fk_ushr a (nI s)).toBitVec.toNat = _
  rw [ush_n a hs, BitVec.toNat_ushiftRight, Nat.shiftRight_eq_div_pow]
  rfl
def u8 (a : Int64) : Nat := a.toBitVec.toNat
theorem u8_lt (a : Int64) : u8 a < 2 ^ 64 := a.toBitVec.isLt
theorem u8_inj {a b : Int64} (h : u8 a = u8 b) : a = b := Int64.toBitVec_inj.mp (BitVec.eq_of_toNat_eq h)
theorem u8_and (a b : Int64) : u8 (a &&& b) = u8 a &&& u8 b := by
  show (a &&& b).toBitVec.toNat = _
  rw [Int64.toBitVec_and, BitVec.toNat_and]
  rfl
theorem u8_add (a b : Int64) : u8 (a + b) = (u8 a + u8 b) % 2 ^ 64 := by
  show (a + b).toBitVec.toNat = _
  rw [Int64.toBitVec_add, BitVec.toNat_add]
  rfl
theorem u8_sub {a b : Int64} (h : u8 b ≤ u8 a) : u8 (a - b) = u8 a - u8 b := by
  show (a - b).toBitVec.toNat = _
  rw [Int64.toBitVec_sub, BitVec.toNat_sub_of_le h]
  rfl
theorem lush_n {s : Nat} (a : Int64) (hs : s < 64) : (fk_lushr a (nI s)).toBitVec = a.toBitVec >>> s := by
  have key : ∀ k : Fin 64, ((nI k.val).toInt64.toUInt64 &&& Int64.toUInt64 63).toBitVec.toNat % 64 = k.val := by decide +kernel
  have e := key ⟨s, hs⟩
  have e : ((nI s).toInt64.toUInt64 &&& Int64.toUInt64 63).toBitVec.toNat % 64 = s := e
  show a.toBitVec >>> (((nI s).toInt64.toUInt64 &&& Int64.toUInt64 63).toBitVec % 64#64).toNat = _
  rw [BitVec.toNat_umod]
  show a.toBitVec >>> (((nI s).toInt64.toUInt64 &&& Int64.toUInt64 63).toBitVec.toNat % 64) = _
  rw [e]
theorem u8_ush {s : Nat} (a : Int64) (hs : s < 64) : u8 (fk_lushr a (nI s)) = u8 a / 2 ^ s := by
  show (fk_lushr a (nI s)).toBitVec.toNat = _
  rw [lush_n a hs, BitVec.toNat_ushiftRight, Nat.shiftRight_eq_div_pow]
  rfl
theorem pop32 {a y1 y2 y3 y4 y5 : Int32} (h1 : a - (fk_ushr a (1 : Int32) &&& (1431655765 : Int32)) = y1) (h2 : (y1 &&& (858993459 : Int32)) + (fk_ushr y1 (2 : Int32) &&& (858993459 : Int32)) = y2) (h3 : (y2 + fk_ushr y2 (4 : Int32)) &&& (252645135 : Int32) = y3) (h4 : y3 + fk_ushr y3 (8 : Int32) = y4) (h5 : y4 + fk_ushr y4 (16 : Int32) = y5) : y5 &&& (63 : Int32) = nI (pcN 32 (u4 a)) := by
  have ha := u4_lt a
  have c1 : u4 (1431655765 : Int32) = mkN 85 4 := by decide
  have c2 : u4 (858993459 : Int32) = mkN 51 4 := by decide
  have c3 : u4 (252645135 : Int32) = mkN 15 4 := by decide
  have e1 : u4 (fk_ushr a (1 : Int32) &&& (1431655765 : Int32)) = bw f55 4 (u4 a) := by
    rw [u4_and, c1, show (1 : Int32) = nI 1 from rfl, u4_ush _ (by decide), ← bw_55]
  obtain ⟨s1, s2⟩ := bw_sub 4 (u4 a) ha
  have g1 : u4 y1 = bw f1 4 (u4 a) := by rw [← h1, u4_sub (by rw [e1]; exact s1), e1, s2]
  have l2 := bw_lt (fun b hb => (d_256 ⟨b, hb⟩).2.2.2.2.1) 4 (u4 a)
  have l2 : bw f2 4 (u4 a) < 2 ^ 32 := l2
  have g2 : u4 y2 = bw f2 4 (u4 a) := by
    rw [← h2, u4_add, u4_and, u4_and, c2, show (2 : Int32) = nI 2 from rfl, u4_ush _ (by decide), g1, show (2 : Nat) ^ 2 = 4 from rfl, bw_33, Nat.mod_eq_of_lt l2]
  have hh : bw f2 4 (u4 a) + bw f2 4 (u4 a) / 16 < 2 ^ 32 := by
    have e : bw f2 4 (u4 a) = f2 (u4 a % 256) + 256 * (f2 (u4 a / 256 % 256) + 256 * (f2 (u4 a / 256 / 256 % 256) + 256 * (f2 (u4 a / 256 / 256 / 256 % 256) + 256 * 0))) := rfl
    have k := fun b => (d_256 ⟨b % 256, Nat.mod_lt _ (by decide)⟩).2.2
    have k0 : f2 (u4 a % 256) % 16 ≤ 4 ∧ f2 (u4 a % 256) / 16 ≤ 4 := ⟨(k _).1, (k _).2.1⟩
    have k1 : f2 (u4 a / 256 % 256) % 16 ≤ 4 ∧ f2 (u4 a / 256 % 256) / 16 ≤ 4 := ⟨(k _).1, (k _).2.1⟩
    have k2 : f2 (u4 a / 256 / 256 % 256) % 16 ≤ 4 ∧ f2 (u4 a / 256 / 256 % 256) / 16 ≤ 4 := ⟨(k _).1, (k _).2.1⟩
    have k3 : f2 (u4 a / 256 / 256 / 256 % 256) % 16 ≤ 4 ∧ f2 (u4 a / 256 / 256 / 256 % 256) / 16 ≤ 4 := ⟨(k _).1, (k _).2.1⟩
    omega
  have g3 : u4 y3 = bw (pcN 8) 4 (u4 a) := by
    rw [← h3, u4_and, u4_add, c3, show (4 : Int32) = nI 4 from rfl, u4_ush _ (by decide), g2, show (2 : Nat) ^ 4 = 16 from rfl, Nat.mod_eq_of_lt hh, bw_all]
  obtain ⟨z1, z2, z3⟩ := sum4 g3 rfl rfl
  have g4 : u4 y4 = u4 y3 + u4 y3 / 256 := by
    rw [← h4, u4_add, show (8 : Int32) = nI 8 from rfl, u4_ush _ (by decide), show (2 : Nat) ^ 8 = 256 from rfl, Nat.mod_eq_of_lt z1]
  have g5 : u4 y5 = u4 y4 + u4 y4 / 65536 := by
    rw [← h5, u4_add, show (16 : Int32) = nI 16 from rfl, u4_ush _ (by decide), show (2 : Nat) ^ 16 = 65536 from rfl, g4, Nat.mod_eq_of_lt z2]
  have hp := pcN_le 32 (u4 a)
  apply u4_inj
  rw [u4_nI (by omega), u4_and, show u4 (63 : Int32) = 2 ^ 6 - 1 from rfl, Nat.and_two_pow_sub_one_eq_mod, g5, g4]
  exact z3
