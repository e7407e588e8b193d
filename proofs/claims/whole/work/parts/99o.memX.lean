/-! MEMORY of a run, the class -/
theorem lN_add2 (a b : Nat) : lN a + lN b = lN (a + b) := lN_add a b
/-- a byte put -/
theorem by8_put (x : Int64) {k : Nat} (hk : k < 8) (v : Int32) {b : UInt8} (hv : u4 v = b.toNat) (j : Nat) (hj : j < 8) : by8 ((x &&& ((fk_lshl (255 : Int64) (nI (8 * k))) ^^^ (Int64.ofNat 18446744073709551615))) ||| (fk_lshl ((v &&& (255 : Int32)).toInt64) (nI (8 * k)))) j = if j = k then b else by8 x j := by
  have hb := b.toNat_lt
  have e1 : v &&& (255 : Int32) = nI b.toNat := by
    apply u4_inj
    rw [u4_nI (by omega), u4_and, hv, show u4 (255 : Int32) = 2 ^ 8 - 1 from rfl, Nat.and_two_pow_sub_one_eq_mod]
    omega
  have e2 : (v &&& (255 : Int32)).toInt64 = lN b.toNat := by rw [e1, nI_l (by omega)]
  have hff : ∀ i, i < 64 → (Int64.ofNat 18446744073709551615).toBitVec.getLsbD i = true := by decide +kernel
  have h255 : ∀ i, i < 64 → (255 : Int64).toBitVec.getLsbD i = decide (i < 8) := by decide +kernel
  have hbit : ∀ i, 8 ≤ i → (lN b.toNat).toBitVec.getLsbD i = false := fun i hi => by
    show (BitVec.ofNat 64 b.toNat).getLsbD i = false
    rw [BitVec.getLsbD_ofNat, Nat.testBit_lt_two_pow (Nat.lt_of_lt_of_le hb (Nat.pow_le_pow_right (n := 2) (by decide) hi)), Bool.and_false]
  rw [e2]
  apply UInt8.toBitVec_inj.mp
  apply BitVec.eq_of_getLsbD_eq
  intro i hi
  have lhs : ∀ w : Int64, (by8 w j).toBitVec.getLsbD i = w.toBitVec.getLsbD (8 * j + i) := fun w => by
    show ((w.toBitVec >>> (8 * j)).setWidth 8).getLsbD i = _
    rw [BitVec.getLsbD_setWidth, BitVec.getLsbD_ushiftRight, decide_eq_true hi, Bool.true_and]
  rw [lhs, Int64.toBitVec_or, Int64.toBitVec_and, Int64.toBitVec_xor, fk_lshl_nat (by omega), fk_lshl_nat (by omega), BitVec.getLsbD_or, BitVec.getLsbD_and, BitVec.getLsbD_xor, BitVec.getLsbD_shiftLeft, BitVec.getLsbD_shiftLeft, hff _ (by omega)]
  by_cases z : j = k
  · subst z
    rw [if_pos rfl, decide_eq_true (show 8 * j + i < 64 by omega), decide_eq_false (show ¬ 8 * j + i < 8 * j by omega), show 8 * j + i - 8 * j = i by omega, h255 i (by omega), decide_eq_true hi]
    simp only [Bool.not_false, Bool.and_true, Bool.true_and, Bool.xor_self, Bool.and_false, Bool.false_or, Bool.xor_true, Bool.not_true]
    show (BitVec.ofNat 64 b.toNat).getLsbD i = b.toBitVec.getLsbD i
    rw [BitVec.getLsbD_ofNat, decide_eq_true (show i < 64 by omega), Bool.true_and]
    rfl
  · rw [if_neg z, lhs]
    by_cases w : 8 * j + i < 8 * k
    · rw [decide_eq_true w]
      simp
    · rw [hbit (8 * j + i - 8 * k) (by omega), h255 (8 * j + i - 8 * k) (by omega), decide_eq_false (show ¬ 8 * j + i - 8 * k < 8 by omega)]
      simp
section MEMX
variable {d fr w op : Nat} {m : Md} {σ : fkS} {A S : List Int64} {mm : Nat → UInt8}
def mmX (mm : Nat → UInt8) (σ : fkS) : Prop := ∀ k, k < 131072 → by8 (σ.2.1 58 (k / 8)) (k % 8) = mm k
theorem mmX.fo {σ' : fkS} (h : mmX mm σ) (f : Fr sTr σ σ') : mmX mm σ' := fun k hk => by
  rw [(f 58 (k / 8) rfl).2.1]
  exact h k hk
def sMm2 (c j : Nat) : Bool := Nat.beq c 58
theorem x_setByte {a : Nat} {v : Int32} {b : UInt8} (ha : a < 131072) (hv : u4 v = b.toNat) (hM : mmX mm σ) {Q : fkS → Prop} (hQ : ∀ σ', σ'.2.2 = σ.2.2 → Fr sMm2 σ σ' → mmX (fun i => if i = a then b else mm i) σ' → Q σ') : Dv d 125 [.ref 56, .int (nI a), .int v] σ Q := by
  have e1 : nI a >>> ((3 : Int32) &&& 31) = nI (a / 8) := pk_shrN (by omega) _ 3 (by decide)
  have e2 : nI a &&& (7 : Int32) = nI (a % 8) := pk_andN (by omega) 3 (by decide)
  have e3 : nI (a % 8) <<< ((3 : Int32) &&& 31) = nI (8 * (a % 8)) := by
    rw [pk_shlN _ 3 (by decide) (by omega)]
    congr 1
    omega
  refine S_Machine_setByte (Q := Qv _) ?_
  rw [e1, e2, e3, nI_clamp (n := a / 8) (by omega)]
  refine ⟨vp_in_nI (by omega) (by decide), vp_in_nI (by omega) (by decide), rfl, hQ _ rfl (Fr.rf.sL rfl) fun i hi => ?_⟩
  have hk : a % 8 < 8 := Nat.mod_lt _ (by decide)
  have hj : i % 8 < 8 := Nat.mod_lt _ (by decide)
  show _ = if i = a then b else mm i
  by_cases z : i / 8 = a / 8
  · rw [z, sL_ss, by8_put _ hk v hv _ hj]
    by_cases y : i % 8 = a % 8
    · rw [if_pos y, if_pos (by omega)]
    · rw [if_neg y, if_neg (by omega), ← z]
      exact hM i hi
  · rw [sL_so z, if_neg (by omega)]
    exact hM i hi
theorem x_byte {a : Nat} (ha : a < 131072) (hM : mmX mm σ) {P : Int32 → fkS → Prop} (h : P (bI (mm a)) σ) : Di d 123 [.ref 56, .int (nI a)] σ P := (c_byteAt ha).mono fun x σ1 hx => by
  obtain ⟨r, rfl, e, rfl, rfl⟩ := Qi_s hx
  rw [hM a ha] at hx ⊢
  exact ⟨rfl, h⟩
theorem x_addr {x off : Int64} {p : Nat} (hp : p ≤ 2) (h4 : σ.1 56 4 = nI p) (hw : w ≤ 8) (ho : hi64 off < 2 ^ 32) {P : Int32 → fkS → Prop} (h0 : lo32 x + hi64 off + w ≤ 65536 * p → P (nI (lo32 x + hi64 off)) σ) (h1 : ¬ lo32 x + hi64 off + w ≤ 65536 * p → P (-1) (sI σ 56 15 (4 : Int32))) : Di (d + 1) 121 [.ref 56, .long x, .long off, .int (nI w)] σ P := by
  have hl : lo32 x < 2 ^ 32 := Nat.mod_lt _ (Nat.two_pow_pos 32)
  have eo : off = lN (hi64 off) := (u8_self off).symm
  have e1 : (x &&& (Int64.ofNat 4294967295)) + off = lN (lo32 x + hi64 off) := by
    rw [and32]
    conv => lhs; rw [eo]
    exact lN_add2 _ _
  refine S_Machine_address (Q := Qi _) (S_Machine_bytes (Q := Qi _) ⟨rfl, ?_⟩)
  rw [h4, show (65536 : Int32) = nI 65536 from rfl, nI_mul, e1]
  show (_ → _) ∧ (_ → _)
  rw [nI_l (by omega), nI_l (by omega), lN_add2, sW_id, lg_le, pk_lLE (by omega) (by omega)]
  refine ⟨fun z => ⟨rfl, ?_⟩, fun z => ⟨rfl, ?_⟩⟩
  · rw [lN_i32]
    exact h0 (by omega)
  · exact h1 (by omega)
/-- bytes are read, the last one first -/
theorem w_load34 {off : Nat} (hop : op < 256) (hw : w ≤ 8) (hfr : fr + w ≤ 131072) (hM : mmX mm σ) (hA : oX σ A) (hl : A.length < 24000) {Q : fkS → Prop} (hQ : ∀ σ', σ'.2.2 = σ.2.2 → Fr sOp σ σ' → oX σ' ((if ldSg op = true then fk_lshr (fk_lshl (ldA mm fr w w) (nI (64 - 8 * w))) (nI (64 - 8 * w)) else ldA mm fr w w) :: A) → Q σ') :
    ∀ (k r : Nat), r + k = w → Wq 120 (d + 1) 34 [some (.ref 56), some (.int (nI op)), none, none, some (.int (nI w)), some (.int (nI fr)), some (.long (ldA mm fr w r)), none, some (.int (nI k - 1)), none] [] σ (Qv fun σ' => σ'.2.2 = σ.2.2 ∧ Q σ')
  | 0, r, hr => by
    have hr : r = w := by omega
    subst hr
    have fin : ∀ {s : Int32}, (ldSg op = true ∧ s = 1 ∨ ldSg op = false ∧ s = 0) → Wq 120 (d + 1) 86 [some (.ref 56), none, none, none, some (.int (nI r)), none, some (.long (ldA mm fr r r)), none, none, none] [.int s] σ (Qv fun σ' => σ'.2.2 = σ.2.2 ∧ Q σ') := fun {s} hs => by
      refine S_Machine_load_86 ⟨fun z => ?_, fun z => ?_⟩
      · rcases hs with ⟨s1, s2⟩ | ⟨s1, s2⟩
        · rw [s2] at z
          exact absurd z (by decide)
        · refine x_push hA hl fun σ2 e2 f2 o2 => ?_
          rw [sW_eq e2]
          refine ⟨e2, hQ σ2 e2 f2 ?_⟩
          rw [if_neg (by rw [s1]; decide)]
          exact o2
      · rcases hs with ⟨s1, s2⟩ | ⟨s1, s2⟩
        · have e64 : (64 : Int32) - ((8 : Int32) * nI r) = nI (64 - 8 * r) := by rw [show (64 : Int32) = nI 64 from rfl, show (8 : Int32) = nI 8 from rfl, nI_mul, nI_sub (by omega)]
          rw [e64]
          refine x_push hA hl fun σ2 e2 f2 o2 => ?_
          rw [sW_eq e2]
          refine ⟨e2, hQ σ2 e2 f2 ?_⟩
          rw [if_pos s1]
          exact o2
        · rw [s2] at z
          exact absurd rfl z
    have en : ∀ {c : Nat}, c < 2 ^ 31 → (nI op = nI c ↔ op = c) := fun hc => nI_eq (by omega) hc
    have el : ∀ {c : Nat}, c < 2 ^ 31 → (nI op < nI c ↔ op < c) := fun hc => nI_ltI (by omega) hc
    have e1 : nI op &&& (1 : Int32) = nI (op % 2) := pk_andN (by omega) 1 (by decide)
    refine S_Machine_load_34 ⟨fun _ => ⟨fun z => fin (.inl ⟨?_, rfl⟩), fun z => ⟨fun y => fin (.inr ⟨?_, rfl⟩), fun y => ?_⟩⟩, fun z => absurd (by decide) z⟩
    · have := (en (c := 40) (by decide)).mp z
      rw [this]
      rfl
    · have y := (el (c := 44) (by decide)).mp y
      have z : op ≠ 40 := fun h => z ((en (by decide)).mpr h)
      unfold ldSg
      rw [decide_eq_false z, decide_eq_false (by omega)]
      rfl
    · have y : ¬ op < 44 := fun h => y ((el (by decide)).mpr h)
      have z : op ≠ 40 := fun h => z ((en (by decide)).mpr h)
      rw [e1]
      refine ⟨fun x => fin (.inr ⟨?_, rfl⟩), fun x => fin (.inl ⟨?_, rfl⟩)⟩
      · have x : op % 2 ≠ 0 := fun h => x (by rw [h]; rfl)
        unfold ldSg
        rw [decide_eq_false z, decide_eq_true (show 44 ≤ op by omega), decide_eq_false x]
        rfl
      · have x : op % 2 = 0 := (nI_eq (a := op % 2) (b := 0) (by omega) (by decide)).mp x
        unfold ldSg
        rw [decide_eq_false z, decide_eq_true (show 44 ≤ op by omega), decide_eq_true x]
        rfl
  | k + 1, r, hr => by
    have ek : nI (k + 1) - 1 = nI k := nI_pred k
    rw [ek]
    refine S_Machine_load_34 ⟨fun z => absurd z (nI_pos (by omega)), fun _ => ?_⟩
    rw [nI_add]
    refine x_byte (a := fr + k) (by omega) hM ?_
    rw [sW_id]
    have e2 : nI k + (-1 : Int32) = nI k - 1 := by rw [Int32.sub_eq_add_neg]
    have e3 : (fk_lshl (ldA mm fr w r) (8 : Int32)) ||| (bI (mm (fr + k))).toInt64 = ldA mm fr w (r + 1) := by
      rw [ldA, show w - 1 - r = k by omega]
    rw [e2, e3]
    exact w_load34 (off := off) hop hw hfr hM hA hl hQ k (r + 1) (by omega)
end MEMX
