/-! RUNNING, in the middle: values keep their types -/
theorem c32_n {k : Nat} (h : k < 2 ^ 31) : c32 (lN k) := by
  rw [← nI_l h]
  exact c32_i _
theorem c32_b (b : Bool) : c32 (b2l b) := by
  cases b
  · exact c32_n (k := 0) (by decide)
  · exact c32_n (k := 1) (by decide)
theorem pcN_le : ∀ (w x : Nat), pcN w x ≤ w
  | 0, _ => Nat.le_refl _
  | w + 1, x => by
    have := pcN_le w x
    rw [pcN]
    split <;> omega
theorem czN_le : ∀ (w x : Nat), czN w x ≤ w
  | 0, _ => Nat.le_refl _
  | w + 1, x => by
    have := czN_le w x
    rw [czN]
    split <;> omega
theorem tzN_le : ∀ (w j x : Nat), tzN w j x ≤ w
  | 0, _, _ => Nat.le_refl _
  | w + 1, j, x => by
    have := tzN_le w (j + 1) x
    rw [tzN]
    split <;> omega
theorem bitsN_le (k w x : Nat) : bitsN k w x ≤ w := by
  unfold bitsN
  split
  · exact czN_le w x
  split
  · exact tzN_le w 0 x
  · exact pcN_le w x
/-- bytes as a number -/
def ldN (mm : Nat → UInt8) (fr w : Nat) : Nat → Nat
  | 0 => 0
  | r + 1 => ldN mm fr w r * 256 + (mm (fr + (w - 1 - r))).toNat
theorem ldN_lt (mm : Nat → UInt8) (fr w : Nat) : ∀ r, ldN mm fr w r < 256 ^ r
  | 0 => Nat.zero_lt_one
  | r + 1 => by
    have := ldN_lt mm fr w r
    have := (mm (fr + (w - 1 - r))).toNat_lt
    rw [ldN, Nat.pow_succ]
    omega
theorem ldA_N (mm : Nat → UInt8) (fr w : Nat) : ∀ r, r ≤ 8 → ldA mm fr w r = lN (ldN mm fr w r)
  | 0, _ => rfl
  | r + 1, hr => by
    have hlt := ldN_lt mm fr w r
    have hb := (mm (fr + (w - 1 - r))).toNat_lt
    have hp : (256 : Nat) ^ r = 2 ^ (8 * r) := by rw [Nat.pow_mul]
    rw [hp] at hlt
    have hp2 : (2 : Nat) ^ (8 * r) ≤ 2 ^ 56 := Nat.pow_le_pow_right (by decide) (by omega)
    rw [ldA, ldN, ldA_N mm fr w r (by omega)]
    apply Int64.toBitVec_inj.mp
    rw [Int64.toBitVec_or, show (8 : Int32) = nI 8 from rfl, fk_lshl_nat (by decide)]
    have e : (bI (mm (fr + (w - 1 - r)))).toInt64 = lN (mm (fr + (w - 1 - r))).toNat := nI_l (by omega)
    rw [e]
    show BitVec.ofNat 64 _ <<< 8 ||| BitVec.ofNat 64 _ = BitVec.ofNat 64 _
    apply BitVec.eq_of_toNat_eq
    rw [BitVec.toNat_or, BitVec.toNat_shiftLeft, BitVec.toNat_ofNat, BitVec.toNat_ofNat, BitVec.toNat_ofNat, Nat.shiftLeft_eq]
    have e1 : ldN mm fr w r % 2 ^ 64 = ldN mm fr w r := Nat.mod_eq_of_lt (by omega)
    rw [e1, Nat.mod_eq_of_lt (show (mm (fr + (w - 1 - r))).toNat < 2 ^ 64 by omega), Nat.mod_eq_of_lt (show ldN mm fr w r * 2 ^ 8 < 2 ^ 64 by omega), Nat.mod_eq_of_lt (by omega)]
    rw [Nat.mul_comm, ← Nat.two_pow_add_eq_or_of_lt (by omega), Nat.mul_comm]
theorem ld_c32 {op : Nat} (mm : Nat → UInt8) (fr : Nat) (h : op = 40 ∨ (44 ≤ op ∧ op ≤ 47)) : c32 (ldV op mm fr) := by
  have hw : (op = 40 ∧ wid op = 4) ∨ (op ≤ 45 ∧ wid op = 1) ∨ (46 ≤ op ∧ wid op = 2) := by
    have : op = 40 ∨ op = 44 ∨ op = 45 ∨ op = 46 ∨ op = 47 := by omega
    rcases this with rfl | rfl | rfl | rfl | rfl <;> decide
  have hN := ldN_lt mm fr (wid op) (wid op)
  have hA := ldA_N mm fr (wid op) (wid op) (by omega)
  generalize ldN mm fr (wid op) (wid op) = N at hN hA
  unfold ldV
  by_cases hs : ldSg op = true
  · rw [if_pos hs, hA]
    refine c32_of fun i hi hi2 => ?_
    have hw2 : 8 * wid op ≤ 32 ∧ 0 < wid op := by omega
    rw [fk_lshr_nat (by omega), fk_lshl_nat (by omega), ext_bit (by omega) (by omega) hi2, ext_bit (by omega) (by omega) (by decide)]
    by_cases h32 : 8 * wid op = 32
    · rw [h32]
      by_cases z : i < 32
      · have : i = 31 := by omega
        subst this
        rfl
      · rw [if_neg z]
        rfl
    · rw [if_neg (by omega), if_neg (by omega)]
  · rw [if_neg hs, hA]
    have hw3 : wid op ≤ 2 := by
      have : op = 40 ∨ op = 44 ∨ op = 45 ∨ op = 46 ∨ op = 47 := by omega
      rcases this with rfl | rfl | rfl | rfl | rfl
      · exact absurd (by decide) hs
      all_goals decide
    have h16 : (256 : Nat) ^ wid op ≤ 256 ^ 2 := Nat.pow_le_pow_right (by decide) hw3
    have h17 : (256 : Nat) ^ 2 = 65536 := by decide
    exact c32_n (by omega)
/-- what an INSTRUCTION that only changes values finds -/
def opSh (m : Md) (f : Nat) (I : In) (S : List Int64) : Prop :=
  (iOp I = 26 → ∃ v r, S = v :: r) ∧ (iOp I = 27 → ∃ c b a r, S = c :: b :: a :: r) ∧ (32 ≤ iOp I ∧ iOp I ≤ 34 → iB I < loN m f) ∧ (33 ≤ iOp I ∧ iOp I ≤ 34 → ∃ v r, S = v :: r) ∧
  (35 ≤ iOp I ∧ iOp I ≤ 36 → iB I < (mdG m).length) ∧ (iOp I = 36 → ∃ v r, S = v :: r) ∧ (40 ≤ iOp I ∧ iOp I ≤ 53 → ∃ x r, S = x :: r) ∧ (54 ≤ iOp I ∧ iOp I ≤ 62 → ∃ v x r, S = v :: x :: r) ∧ (iOp I = 64 → ∃ v r, S = v :: r) ∧
  (40 ≤ iOp I ∧ iOp I ≤ 64 → (mdM m).length = 1) ∧
  ((iOp I = 69 ∨ iOp I = 80 ∨ (103 ≤ iOp I ∧ iOp I ≤ 105) ∨ (121 ≤ iOp I ∧ iOp I ≤ 123) ∨ 167 ≤ iOp I) → ∃ v r, S = v :: r ∧ ((iOp I = 69 ∨ (103 ≤ iOp I ∧ iOp I ≤ 105) ∨ 172 ≤ iOp I) → c32 v)) ∧
  ((70 ≤ iOp I ∧ iOp I ≤ 79 ∨ 106 ≤ iOp I ∧ iOp I ≤ 120) → ∃ b a r, S = b :: a :: r ∧ c32 a ∧ c32 b) ∧ ((81 ≤ iOp I ∧ iOp I ≤ 90 ∨ 124 ≤ iOp I ∧ iOp I ≤ 138) → ∃ b a r, S = b :: a :: r)
def loOk (t : Nat → UInt8) (m : Md) (f : Nat) (L : List Int64) : Prop := L.length = loN m f ∧ ∀ (k : Nat) (v : Int64), L[k]? = some v → can (loTy t m f k) v
def glOk (m : Md) (g : Nat → Int64) : Prop := ∀ (k : Nat) (x : Gl), (mdG m)[k]? = some x → can x.1 (g k)
def evOk (m : Md) (e : Env) : Prop := glOk m (eG e) ∧ eP e ≤ 2
/-- types after an INSTRUCTION that only changes values -/
def tyAf (t : Nat → UInt8) (m : Md) (f : Nat) (J K : JS) (r : Nat × List Int64 × List Int64 × Env) : Prop := lv K ∧ jB K = jB J ∧ (r.1 = 0 → tyd r.2.2.1 (jT K) ∧ loOk t m f r.2.1 ∧ evOk m r.2.2.2 ∧ r.2.2.1.length ≤ (jT J).length + 1)
section DATA
variable {t : Nat → UInt8} {n f : Nat} {m : Md} {J K : JS} {S L : List Int64} {e : Env} {I : In}
theorem eff_sp {as rs : List Nat} (h : eff J as K rs) (hS : tyd S (jT J)) : ∃ T, tyd S (T ++ as) ∧ jT K = T ++ rs ∧ jB K = jB J ∧ lv K := by
  obtain ⟨T, h1, h2, h3⟩ := h
  rw [h1] at hS
  exact ⟨T, hS, by rw [h2]; rfl, by rw [h2]; rfl, h3⟩
theorem glAt_get {B : Nat} (h : B < (mdG m).length) : (mdG m)[B]? = some (glAt m B) := by
  unfold glAt
  rw [List.getElem?_eq_getElem h]
  rfl
/-- a number's INSTRUCTION: what it takes and puts -/
theorem num_eff {op : Nat} (hn : isNum op) (hl : lv J) (h4 : (jT J).length ≤ 4000) (hg : jG (jNum op J) = true) :
    (op = 69 ∨ op = 80 ∨ (103 ≤ op ∧ op ≤ 105) ∨ (121 ≤ op ∧ op ≤ 123) ∨ 167 ≤ op → ∃ a b, eff J [a] (jNum op J) [b] ∧ (op = 69 ∨ (103 ≤ op ∧ op ≤ 105) ∨ 172 ≤ op → a = 127) ∧ (b = 127 → op ≤ 105 ∨ op = 167)) ∧
    (70 ≤ op ∧ op ≤ 79 ∨ 106 ≤ op ∧ op ≤ 120 → eff J [127, 127] (jNum op J) [127]) ∧ (81 ≤ op ∧ op ≤ 90 → eff J [126, 126] (jNum op J) [127]) ∧ (124 ≤ op ∧ op ≤ 138 → eff J [126, 126] (jNum op J) [126]) := by
  have t7 : isT 127 := .inl rfl
  have t6 : isT 126 := .inr rfl
  unfold isNum at hn
  unfold jNum at hg ⊢
  by_cases c1 : op = 167
  · rw [if_pos c1] at hg ⊢
    exact ⟨fun _ => ⟨126, 127, eff_turn hl t6 t7 h4 hg, fun z => absurd z (by omega), fun _ => .inr c1⟩, fun z => absurd z (by omega), fun z => absurd z (by omega), fun z => absurd z (by omega)⟩
  rw [if_neg c1] at hg ⊢
  by_cases c2 : 172 ≤ op
  · rw [if_pos c2] at hg ⊢
    exact ⟨fun _ => ⟨127, 126, eff_turn hl t7 t6 h4 hg, fun _ => rfl, fun z => absurd z (by decide)⟩, fun z => absurd z (by omega), fun z => absurd z (by omega), fun z => absurd z (by omega)⟩
  rw [if_neg c2] at hg ⊢
  by_cases c3 : op ≤ 79
  · rw [if_pos c3] at hg ⊢
    have he := eff_turn hl t7 t7 h4 hg
    by_cases c : op = 69
    · rw [if_pos c] at he ⊢
      exact ⟨fun _ => ⟨127, 127, he, fun _ => rfl, fun _ => .inl (by omega)⟩, fun z => absurd z (by omega), fun z => absurd z (by omega), fun z => absurd z (by omega)⟩
    · rw [if_neg c] at he ⊢
      exact ⟨fun z => absurd z (by omega), fun _ => he, fun z => absurd z (by omega), fun z => absurd z (by omega)⟩
  rw [if_neg c3] at hg ⊢
  by_cases c4 : op ≤ 90
  · rw [if_pos c4] at hg ⊢
    have he := eff_turn hl t6 t7 h4 hg
    by_cases c : op = 80
    · rw [if_pos c] at he ⊢
      exact ⟨fun _ => ⟨126, 127, he, fun z => absurd z (by omega), fun _ => .inl (by omega)⟩, fun z => absurd z (by omega), fun z => absurd z (by omega), fun z => absurd z (by omega)⟩
    · rw [if_neg c] at he ⊢
      exact ⟨fun z => absurd z (by omega), fun z => absurd z (by omega), fun _ => he, fun z => absurd z (by omega)⟩
  rw [if_neg c4] at hg ⊢
  by_cases c5 : op ≤ 120
  · rw [if_pos c5] at hg ⊢
    have he := eff_turn hl t7 t7 h4 hg
    by_cases c : op ≤ 105
    · rw [if_pos c] at he ⊢
      exact ⟨fun _ => ⟨127, 127, he, fun _ => rfl, fun _ => .inl c⟩, fun z => absurd z (by omega), fun z => absurd z (by omega), fun z => absurd z (by omega)⟩
    · rw [if_neg c] at he ⊢
      exact ⟨fun z => absurd z (by omega), fun _ => he, fun z => absurd z (by omega), fun z => absurd z (by omega)⟩
  · rw [if_neg c5] at hg ⊢
    have he := eff_turn hl t6 t6 h4 hg
    by_cases c : op ≤ 123
    · rw [if_pos c] at he ⊢
      exact ⟨fun _ => ⟨126, 126, he, fun z => absurd z (by omega), fun z => absurd z (by decide)⟩, fun z => absurd z (by omega), fun z => absurd z (by omega), fun z => absurd z (by omega)⟩
    · rw [if_neg c] at he ⊢
      exact ⟨fun z => absurd z (by omega), fun z => absurd z (by omega), fun z => absurd z (by omega), fun _ => he⟩
theorem xU_c32 {op : Nat} {v : Int64} (h : op ≤ 105 ∨ op = 167) : c32 (xU op v) := by
  unfold xU
  split
  · exact c32_b _
  split
  · refine c32_n ?_
    have := bitsN_le (op - 103) 32 (lo32 v)
    omega
  split
  · refine c32_n ?_
    have := bitsN_le (op - 121) 64 (hi64 v)
    omega
  rw [if_pos (by omega)]
  exact c32_i _
theorem xB_c32 {op : Nat} {a b : Int64} (h : op ≤ 120) : c32 (xB op a b).2 := by
  unfold xB
  split
  · exact c32_b _
  split
  · exact c32_b _
  · first
      | exact c32_i _
      | (rw [if_pos h]; exact c32_i _)
theorem dop_num {op : Nat} (h : iOp I = op) (hn : isNum op) : dop m I L S e = if op = 69 ∨ op = 80 ∨ (103 ≤ op ∧ op ≤ 105) ∨ (121 ≤ op ∧ op ≤ 123) ∨ 167 ≤ op then (0, L, xU op (S.headD 0) :: S.drop 1, e) else ((xB op ((S.drop 1).headD 0) (S.headD 0)).1, L, (xB op ((S.drop 1).headD 0) (S.headD 0)).2 :: S.drop 2, e) := by
  unfold isNum at hn
  unfold dop
  rw [h, if_neg (by omega), if_neg (by omega), if_neg (by omega), if_neg (by omega), if_neg (by omega), if_neg (by omega), if_neg (by omega), if_neg (by omega), if_neg (by omega), if_neg (by omega), if_neg (by omega), if_neg (by omega), if_neg (by omega)]
theorem data_num (hn : isNum (iOp I)) (hl : lv J) (h4 : (jT J).length ≤ 4000) (hK : K = jNum (iOp I) J) (hg : jG K = true) (hS : tyd S (jT J)) (hL : loOk t m f L) (hG : evOk m e) : opSh m f I S ∧ tyAf t m f J K (dop m I L S e) := by
  subst hK
  have hlen := hS.len
  obtain ⟨n1, n2, n3, n4⟩ := num_eff hn hl h4 hg
  have hn2 := hn
  unfold isNum at hn2
  rw [dop_num rfl hn]
  unfold opSh tyAf
  by_cases c : iOp I = 69 ∨ iOp I = 80 ∨ (103 ≤ iOp I ∧ iOp I ≤ 105) ∨ (121 ≤ iOp I ∧ iOp I ≤ 123) ∨ 167 ≤ iOp I
  · rw [if_pos c]
    obtain ⟨a, b, he, ha, hb⟩ := n1 c
    obtain ⟨T, s1, s2, s3, s4⟩ := eff_sp he hS
    obtain ⟨v, r, rfl, hv, hr⟩ := s1.un
    refine ⟨⟨fun z => absurd z (by omega), fun z => absurd z (by omega), fun z => absurd z (by omega), fun z => absurd z (by omega), fun z => absurd z (by omega), fun z => absurd z (by omega), fun z => absurd z (by omega), fun z => absurd z (by omega), fun z => absurd z (by omega), fun z => absurd z (by omega), fun _ => ⟨v, r, rfl, fun z => hv (ha z)⟩, fun z => absurd z (by omega), fun z => absurd z (by omega)⟩, s4, s3, fun _ => ⟨?_, hL, hG, ?_⟩⟩
    · rw [s2]
      exact hr.snoc fun z => xU_c32 (hb z)
    · rw [List.length_cons] at hlen
      show (_ :: r).length ≤ _
      rw [List.length_cons]
      omega
  · rw [if_neg c]
    have hbin : ∃ a b, eff J [a, a] (jNum (iOp I) J) [b] ∧ ((70 ≤ iOp I ∧ iOp I ≤ 79 ∨ 106 ≤ iOp I ∧ iOp I ≤ 120) → a = 127) ∧ (b = 127 → iOp I ≤ 120) := by
      by_cases d1 : 70 ≤ iOp I ∧ iOp I ≤ 79 ∨ 106 ≤ iOp I ∧ iOp I ≤ 120
      · exact ⟨_, _, n2 d1, fun _ => rfl, fun _ => by omega⟩
      by_cases d2 : 81 ≤ iOp I ∧ iOp I ≤ 90
      · exact ⟨_, _, n3 d2, fun z => absurd z d1, fun _ => by omega⟩
      · exact ⟨_, _, n4 (by omega), fun z => absurd z d1, fun z => absurd z (by decide)⟩
    obtain ⟨a, b, he, ha, hb⟩ := hbin
    obtain ⟨T, s1, s2, s3, s4⟩ := eff_sp he hS
    obtain ⟨v, u, r, rfl, hv, hu, hr⟩ := s1.un2
    refine ⟨⟨fun z => absurd z (by omega), fun z => absurd z (by omega), fun z => absurd z (by omega), fun z => absurd z (by omega), fun z => absurd z (by omega), fun z => absurd z (by omega), fun z => absurd z (by omega), fun z => absurd z (by omega), fun z => absurd z (by omega), fun z => absurd z (by omega), fun z => absurd z c, fun z => ⟨v, u, r, rfl, hu (ha z), hv (ha z)⟩, fun _ => ⟨v, u, r, rfl⟩⟩, s4, s3, fun _ => ⟨?_, hL, hG, ?_⟩⟩
    · rw [s2]
      exact hr.snoc fun z => xB_c32 (hb z)
    · rw [List.length_cons, List.length_cons] at hlen
      show (_ :: r).length ≤ _
      rw [List.length_cons]
      omega
end DATA
