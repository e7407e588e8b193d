/-! LAYER 2: WHAT THE METHODS MEAN (by hand). Frames first. -/
/-- outside S nothing has changed -/
def Fr (S : Nat → Nat → Bool) (σ σ' : fkS) : Prop := ∀ c j, S c j = false → σ'.1 c j = σ.1 c j ∧ σ'.2.1 c j = σ.2.1 c j ∧ σ'.2.2 c j = σ.2.2 c j
theorem Fr.rf {S : Nat → Nat → Bool} {σ : fkS} : Fr S σ σ := fun _ _ _ => ⟨rfl, rfl, rfl⟩
theorem Fr.tr {S : Nat → Nat → Bool} {σ σ1 σ2 : fkS} (h : Fr S σ σ1) (h2 : Fr S σ1 σ2) : Fr S σ σ2 := fun c j e => by
  obtain ⟨a1, a2, a3⟩ := h c j e
  obtain ⟨b1, b2, b3⟩ := h2 c j e
  exact ⟨b1.trans a1, b2.trans a2, b3.trans a3⟩
theorem Fr.mono {S S' : Nat → Nat → Bool} {σ σ' : fkS} (h : Fr S σ σ') (hs : ∀ c j, S c j = true → S' c j = true) : Fr S' σ σ' := fun c j e => h c j (by
  cases e2 : S c j
  · rfl
  · rw [hs c j e2] at e; cases e)
theorem Fr.sI {S : Nat → Nat → Bool} {σ σ' : fkS} {c j : Nat} {v : Int32} (h : Fr S σ σ') (hc : S c j = true) : Fr S σ (sI σ' c j v) := fun a b e => by
  refine ⟨?_, (h a b e).2⟩
  by_cases h1 : a = c
  · subst h1
    by_cases h2 : b = j
    · subst h2
      rw [hc] at e
      cases e
    · exact (sI_so h2).trans (h a b e).1
  · exact (congrFun (sI_o h1) b).trans (h a b e).1
theorem Fr.sL {S : Nat → Nat → Bool} {σ σ' : fkS} {c j : Nat} {v : Int64} (h : Fr S σ σ') (hc : S c j = true) : Fr S σ (sL σ' c j v) := fun a b e => by
  refine ⟨(h a b e).1, ?_, (h a b e).2.2⟩
  by_cases h1 : a = c
  · subst h1
    by_cases h2 : b = j
    · subst h2
      rw [hc] at e
      cases e
    · exact (sL_so h2).trans (h a b e).2.1
  · exact (congrFun (sL_o h1) b).trans (h a b e).2.1
theorem Fr.sR {S : Nat → Nat → Bool} {σ σ' : fkS} {c j v : Nat} (h : Fr S σ σ') (hc : S c j = true) : Fr S σ (sR σ' c j v) := fun a b e => by
  refine ⟨(h a b e).1, (h a b e).2.1, ?_⟩
  by_cases h1 : a = c
  · subst h1
    by_cases h2 : b = j
    · subst h2
      rw [hc] at e
      cases e
    · exact (sR_so h2).trans (h a b e).2.2
  · exact (congrFun (sR_o h1) b).trans (h a b e).2.2
/-! bytes -/
/-- byte i (from the top) of a word, as the word's own bits -/
def by4 (a : Int32) (s : Nat) : UInt8 := ⟨(a.toBitVec >>> s).setWidth 8⟩
theorem by4_X (a : Int32) {s : Nat} (v : Int32) (hv : (v.toUInt32 &&& Int32.toUInt32 31).toBitVec.toNat % 32 = s) : (fk_ushr a v).toInt8 = (by4 a s).toInt8 := by
  apply Int8.toBitVec_inj.mp
  show BitVec.signExtend 8 (a.toBitVec >>> (((v.toUInt32 &&& Int32.toUInt32 31).toBitVec) % 32#32)) = BitVec.setWidth 8 (a.toBitVec >>> s)
  rw [BitVec.signExtend_eq_setWidth_of_le _ (by decide)]
  congr 1
  show a.toBitVec >>> (((v.toUInt32 &&& Int32.toUInt32 31).toBitVec) % 32#32).toNat = _
  rw [BitVec.toNat_umod]
  congr 1
theorem bv_by4 (w : BitVec 32) {s : Nat} (hs : s ≤ 24) : (w.sshiftRight s) &&& 255#32 = ((w >>> s).setWidth 8).setWidth 32 := by
  apply BitVec.eq_of_getLsbD_eq
  intro i hi
  have h255 : (255#32).getLsbD i = decide (i < 8) := by
    revert hi
    revert i
    decide
  rw [BitVec.getLsbD_and, BitVec.getLsbD_sshiftRight, BitVec.getLsbD_setWidth, BitVec.getLsbD_setWidth, BitVec.getLsbD_ushiftRight, h255]
  by_cases h : i < 8
  · have h2 : s + i < 32 := by omega
    have h3 : ¬ 32 ≤ i := by omega
    simp [h, hi, h2, h3]
  · simp [h]
theorem by4_M (a : Int32) {s : Nat} (v : Int32) (hs : s ≤ 24) (hv : (v.toBitVec.smod 32#32).toNat = s) : (a >>> v) &&& 255 = Int32.ofNat (by4 a s).toNat := by
  apply Int32.toBitVec_inj.mp
  rw [Int32.toBitVec_and, Int32.toBitVec_shiftRight]
  show a.toBitVec.sshiftRight (v.toBitVec.smod 32#32).toNat &&& 255#32 = BitVec.ofNat 32 ((a.toBitVec >>> s).setWidth 8).toNat
  rw [hv, bv_by4 _ hs, BitVec.ofNat_toNat]
/-! the tape: n bytes, of which t k is the kth -/
def tX (σ : fkS) (t : Nat → UInt8) (n : Nat) : Prop := σ.1 0 1 = nI n ∧ ∀ k, k < n → σ.1 1 k = (t k).toInt8.toInt32
def tM (σ : fkS) (t : Nat → UInt8) (n : Nat) : Prop := σ.1 103 1 = nI n ∧ ∀ k, k < n → σ.1 104 k = Int32.ofNat (t k).toNat
/-- one more byte -/
def tp1 (t : Nat → UInt8) (n : Nat) (b : UInt8) : Nat → UInt8 := fun k => if k = n then b else t k
def fkTX (c j : Nat) : Bool := Nat.beq c 1 || (Nat.beq c 0 && Nat.beq j 1)
def fkTM (c j : Nat) : Bool := Nat.beq c 104 || (Nat.beq c 103 && Nat.beq j 1)
theorem tX.one {σ : fkS} {t : Nat → UInt8} {n : Nat} {b : UInt8} (h : tX σ t n) (hn : n < 4000) {v : Int32} (hv : v = b.toInt8.toInt32) : tX (sI (sI σ 1 ((σ.1 0 1).toNatClampNeg) v) 0 1 (σ.1 0 1 + 1)) (tp1 t n b) (n + 1) ∧ Fr fkTX σ (sI (sI σ 1 ((σ.1 0 1).toNatClampNeg) v) 0 1 (σ.1 0 1 + 1)) := by
  obtain ⟨h1, h2⟩ := h
  rw [h1, nI_clamp (by omega)]
  refine ⟨⟨sI_ss.trans (nI_1 n), fun k hk => ?_⟩, (Fr.rf.sI rfl).sI rfl⟩
  have e1 : (sI (sI σ 1 n v) 0 1 (nI n + 1)).1 1 = (sI σ 1 n v).1 1 := sI_o (by decide)
  rw [e1]
  unfold tp1
  by_cases e : k = n
  · subst e
    rw [if_pos rfl, sI_ss, hv]
  · rw [if_neg e, sI_so e, h2 k (by omega)]
theorem tM.one {σ : fkS} {t : Nat → UInt8} {n : Nat} {b : UInt8} (h : tM σ t n) (hn : n < 4000) {v : Int32} (hv : v = Int32.ofNat b.toNat) : tM (sI (sI σ 104 ((σ.1 103 1).toNatClampNeg) v) 103 1 (σ.1 103 1 + 1)) (tp1 t n b) (n + 1) ∧ Fr fkTM σ (sI (sI σ 104 ((σ.1 103 1).toNatClampNeg) v) 103 1 (σ.1 103 1 + 1)) := by
  obtain ⟨h1, h2⟩ := h
  rw [h1, nI_clamp (by omega)]
  refine ⟨⟨sI_ss.trans (nI_1 n), fun k hk => ?_⟩, (Fr.rf.sI rfl).sI rfl⟩
  have e1 : (sI (sI σ 104 n v) 103 1 (nI n + 1)).1 104 = (sI σ 104 n v).1 104 := sI_o (by decide)
  rw [e1]
  unfold tp1
  by_cases e : k = n
  · subst e
    rw [if_pos rfl, sI_ss, hv]
  · rw [if_neg e, sI_so e, h2 k (by omega)]
def tp4 (t : Nat → UInt8) (n : Nat) (a : Int32) : Nat → UInt8 := tp1 (tp1 (tp1 (tp1 t n (by4 a 24)) (n + 1) (by4 a 16)) (n + 2) (by4 a 8)) (n + 3) (by4 a 0)
theorem c_putOnTape {d n : Nat} {a : Int32} {σ : fkS} {t : Nat → UInt8} (h : tX σ t n) (hn : n + 4 ≤ 4000) : Dv d 14 [.ref 0, .int a] σ (fun σ' => tX σ' (tp4 t n a) (n + 4) ∧ Fr fkTX σ σ') := by
  refine S_X_putOnTape ?_
  have stp : ∀ (n : Nat) (v v' : Int32) (b : UInt8) (t : Nat → UInt8) (σ : fkS) (Q : Option Value → fkS → Prop), tX σ t n → n < 4000 → ¬ v < 0 → v + (-8 : Int32) = v' → (fk_ushr a v).toInt8 = b.toInt8 → (∀ σ1, tX σ1 (tp1 t n b) (n + 1) → Fr fkTX σ σ1 → σ1.2.2 = σ.2.2 → Wq 14 d 3 [some (.ref 0), some (.int a), some (.int v')] [] σ1 Q) → Wq 14 d 3 [some (.ref 0), some (.int a), some (.int v)] [] σ Q := by
    intro n v v' b t σ Q ht hn hv hv' hb k
    refine S_X_putOnTape_3 ⟨fun z => absurd z hv, fun _ => ⟨fun z => ?_, fun _ => ⟨?_, ?_⟩⟩⟩
    · rw [ht.1] at z
      exact absurd z (nI_ge (b := 4000) hn (by decide))
    · rw [ht.1]
      exact vp_in_nI hn (by decide)
    · rw [hv']
      have h1 := ht.one hn (b := b) (v := ((fk_ushr a v).toInt8.toInt32).toInt8.toInt32) (by rw [hb, Int8.toInt8_toInt32])
      exact k _ h1.1 h1.2 rfl
  refine stp n 24 16 (by4 a 24) t σ _ h (by omega) (by decide) (by decide) (by4_X a 24 (by decide)) fun σ1 t1 f1 r1 => ?_
  refine stp (n + 1) 16 8 (by4 a 16) _ σ1 _ t1 (by omega) (by decide) (by decide) (by4_X a 16 (by decide)) fun σ2 t2 f2 r2 => ?_
  refine stp (n + 2) 8 0 (by4 a 8) _ σ2 _ t2 (by omega) (by decide) (by decide) (by4_X a 8 (by decide)) fun σ3 t3 f3 r3 => ?_
  refine stp (n + 3) 0 (-8) (by4 a 0) _ σ3 _ t3 (by omega) (by decide) (by decide) (by4_X a 0 (by decide)) fun σ4 t4 f4 r4 => ?_
  refine S_X_putOnTape_3 ⟨fun _ => ⟨r4.trans (r3.trans (r2.trans r1)), t4, ((f1.tr f2).tr f3).tr f4⟩, fun z => absurd (by decide) z⟩
theorem c_feeds {d n : Nat} {a : Int32} {σ : fkS} {t : Nat → UInt8} (h : tM σ t n) (hn : n + 4 ≤ 4000) : Cv d 238 [.ref 103, .int a] σ (fun σ' => tM σ' (tp4 t n a) (n + 4) ∧ Fr fkTM σ σ') := by
  refine S_M_feeds ?_
  have stp : ∀ (n : Nat) (v v' : Int32) (b : UInt8) (t : Nat → UInt8) (σ : fkS) (Q : Option Value → fkS → Prop), tM σ t n → n < 4000 → ¬ v < 0 → v + (-1 : Int32) = v' → (a >>> (((8 : Int32) * v) &&& 31)) &&& (255 : Int32) = Int32.ofNat b.toNat → (∀ σ1, tM σ1 (tp1 t n b) (n + 1) → Fr fkTM σ σ1 → Wq 238 d 2 [some (.ref 103), some (.int a), some (.int v')] [] σ1 Q) → Wq 238 d 2 [some (.ref 103), some (.int a), some (.int v)] [] σ Q := by
    intro n v v' b t σ Q ht hn hv hv' hb k
    refine S_M_feeds_2 ⟨fun z => absurd z hv, fun _ => ⟨?_, ?_⟩⟩
    · rw [ht.1]
      exact vp_in_nI hn (by decide)
    · rw [hv']
      have h1 := ht.one hn (b := b) hb
      exact k _ h1.1 h1.2
  refine stp n 3 2 (by4 a 24) t σ _ h (by omega) (by decide) (by decide) (by4_M a _ (by decide) (by decide)) fun σ1 t1 f1 => ?_
  refine stp (n + 1) 2 1 (by4 a 16) _ σ1 _ t1 (by omega) (by decide) (by decide) (by4_M a _ (by decide) (by decide)) fun σ2 t2 f2 => ?_
  refine stp (n + 2) 1 0 (by4 a 8) _ σ2 _ t2 (by omega) (by decide) (by decide) (by4_M a _ (by decide) (by decide)) fun σ3 t3 f3 => ?_
  refine stp (n + 3) 0 (-1) (by4 a 0) _ σ3 _ t3 (by omega) (by decide) (by decide) (by4_M a _ (by decide) (by decide)) fun σ4 t4 f4 => ?_
  refine S_M_feeds_2 ⟨fun _ => ⟨t4, ((f1.tr f2).tr f3).tr f4⟩, fun z => absurd (by decide) z⟩
