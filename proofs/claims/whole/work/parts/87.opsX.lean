/-! THE JUDGE OF A FUNCTION: drop, select, numbers, calls; the class -/
def iB (i : In) : Nat := (iA i).toInt32.toBitVec.toNat
theorem i32_nI (x : Int32) : x = nI x.toBitVec.toNat := by
  apply Int32.toBitVec_inj.mp
  show x.toBitVec = BitVec.ofNat 32 x.toBitVec.toNat
  rw [BitVec.ofNat_toNat, BitVec.setWidth_eq]
theorem iB_nI (i : In) : (iA i).toInt32 = nI (iB i) ∧ iB i < 2 ^ 32 := ⟨i32_nI _, (iA i).toInt32.toBitVec.isLt⟩
def tyAt (m : Md) (k : Nat) : Ty := ((mdT m)[k]?).getD (0, 0, 0)
def jArgs (t : Nat → UInt8) (x : Ty) : Nat → JS → JS
  | 0, J => J
  | k + 1, J => jArgs t x k (jPop (t (x.1 + k)).toNat J).2
def jCall (t : Nat → UInt8) (m : Md) (ty : Nat) (J : JS) : JS := if ty < (mdT m).length then jPushG (tyAt m ty).2.2 (jArgs t (tyAt m ty) (tyAt m ty).2.1 J) else jBad J
def fnTy (m : Md) (f : Nat) : Nat := ((mdU m)[f]?).getD 0
def jC16 (t : Nat → UInt8) (m : Md) (B : Nat) (J : JS) : JS := if B < (mdU m).length then jCall t m (fnTy m B) J else jBad J
def jC17 (t : Nat → UInt8) (m : Md) (B : Nat) (J : JS) : JS := jCall t m B (jPop 127 (jAnd J (decide (0 < (mdA m).length)))).2
def jSel (J : JS) : JS := jPush (jPop (jPop 0 (jPop 127 J).2).1 (jPop 0 (jPop 127 J).2).2).1 (jPop (jPop 0 (jPop 127 J).2).1 (jPop 0 (jPop 127 J).2).2).2
def jTurn (a times b : Nat) (J : JS) : JS := jPush b (if times = 1 then (jPop a J).2 else (jPop a (jPop a J).2).2)
theorem jPop_lt {J : JS} {due : Nat} (h : jok J) (hd : due < 200) : (jPop due J).1 < 200 := by
  unfold jPop
  split
  · exact hd
  · split
    next b hb hl =>
      show (if jVal J = 0 then due else jVal J) < 200
      split
      · exact hd
      · exact h.2.2.1 _ (List.mem_of_getElem? (jVal_get (by omega)))
    · exact hd
/-- the class's rows that a judge reads -/
def KX (t : Nat → UInt8) (n : Nat) (m : Md) (σ : fkS) : Prop := DT (mdT m) σ ∧ DU (mdU m) σ ∧ σ.1 24 5 = nI (mdA m).length ∧ σ.1 24 7 = nI (mdM m).length ∧ DG (mdG m) σ ∧ rF1 (mdC m).1 σ ∧ DCk (mdC m).2 σ ∧ (∀ k, k < n → σ.1 25 k = (t k).toInt8.toInt32) ∧ σ.2.2 50 0 = 25 ∧ σ.2.2 50 1 = 37
theorem KX.fr {t : Nat → UInt8} {n : Nat} {m : Md} {S : Nat → Nat → Bool} {σ σ' : fkS} (h : KX t n m σ) (e : σ'.2.2 = σ.2.2) (f : Fr S σ σ') (h0 : ∀ c j, c < 44 → S c j = false) : KX t n m σ' := by
  obtain ⟨h1, h2, h3, h4, h5, h6, h7, h8, h9, h10⟩ := h
  refine ⟨h1.fr f (h0 _ _ (by decide)) (fun _ => h0 _ _ (by decide)), h2.fr f (h0 _ _ (by decide)) (fun _ => h0 _ _ (by decide)), (f _ _ (h0 24 5 (by decide))).1.trans h3, (f _ _ (h0 24 7 (by decide))).1.trans h4, h5.fr f (h0 _ _ (by decide)) (fun _ => h0 _ _ (by decide)) (fun _ => h0 _ _ (by decide)), fun k x hx => ?_, h7.fr f fun c j _ hc => h0 c j (by omega), fun k hk => (f _ _ (h0 25 k (by decide))).1.trans (h8 k hk), by rw [e]; exact h9, by rw [e]; exact h10⟩
  obtain ⟨a1, a2, a3, a4⟩ := h6 k x hx
  exact ⟨(f _ _ (h0 _ _ (by decide))).1.trans a1, (f _ _ (h0 _ _ (by decide))).1.trans a2, (f _ _ (h0 _ _ (by decide))).1.trans a3, fun j y hy => (f _ _ (h0 _ _ (by decide))).1.trans (a4 j y hy)⟩
theorem sJg_lt {c j : Nat} (h : c < 44) : sJg c j = false := by
  unfold sJg
  rw [beq_ne (show c ≠ 50 by omega), beq_ne (show c ≠ 51 by omega), beq_ne (show c ≠ 52 by omega), beq_ne (show c ≠ 53 by omega), beq_ne (show c ≠ 54 by omega), beq_ne (show c ≠ 55 by omega)]
  rfl
theorem KX.fg {t : Nat → UInt8} {n : Nat} {m : Md} {σ σ' : fkS} (h : KX t n m σ) (e : σ'.2.2 = σ.2.2) (f : Fr sJg σ σ') : KX t n m σ' := h.fr e f fun _ _ hc => sJg_lt hc
section OPSX
variable {t : Nat → UInt8} {n d : Nat} {m : Md} {J : JS} {σ : fkS}
/-- one more pop, in a walk -/
theorem kPop {due : Nat} {σ0 : fkS} {Q : Int32 → fkS → Prop} (h : rJ J σ) (hd : due < 200) (e0 : σ.2.2 = σ0.2.2) (f0 : Fr sJg σ0 σ) (k : ∀ σ1, σ1.2.2 = σ0.2.2 → Fr sJg σ0 σ1 → rJ (jPop due J).2 σ1 → Q (nI (jPop due J).1) σ1) : Di d 73 [.ref 50, .int (nI due)] σ Q := by
  refine (c_jpop h hd).mono fun x σ1 hx => ?_
  obtain ⟨r, rfl, e1, hr, hp⟩ := Qi_s hx
  subst hr
  exact ⟨e1, k σ1 (e1.trans e0) (f0.tr hp.1) hp.2⟩
theorem kPush {ty : Nat} {σ0 : fkS} {Q : fkS → Prop} (h : rJ J σ) (ht : ty < 200) (e0 : σ.2.2 = σ0.2.2) (f0 : Fr sJg σ0 σ) (k : ∀ σ1, σ1.2.2 = σ0.2.2 → Fr sJg σ0 σ1 → rJ (jPush ty J) σ1 → Q σ1) : Dv d 76 [.ref 50, .int (nI ty)] σ Q := by
  refine (c_jpush h ht).mono fun x σ1 hx => ?_
  obtain ⟨rfl, e1, hp⟩ := Qv_s hx
  exact ⟨e1, k σ1 (e1.trans e0) (f0.tr hp.1) hp.2⟩
theorem c_drop {op : Nat} (h : rJ J σ) (ho : op < 256) : Dv (d + 1) 88 [.ref 50, .int (nI op)] σ (fun σ' => PJ (if op = 26 then (jPop 0 J).2 else jSel J) σ σ') := by
  refine S_Judge_dropOrSelect (And.comm.mp (pk_eq op 26 (fun z => ?_) fun z => ?_))
  · rw [if_pos z]
    refine kPop (due := 0) h (by decide) rfl Fr.rf fun σ1 e1 f1 h1 => ?_
    simp only [sW_eq e1]
    exact ⟨e1, f1, h1⟩
  · rw [if_neg z]
    refine kPop (due := 127) h (by decide) rfl Fr.rf fun σ1 e1 f1 h1 => ?_
    simp only [sW_eq e1]
    refine kPop (due := 0) h1 (by decide) e1 f1 fun σ2 e2 f2 h2 => ?_
    simp only [sW_eq e2]
    have hb := jPop_lt (due := 0) h1.1 (by decide)
    refine kPop (due := (jPop 0 (jPop 127 J).2).1) h2 hb e2 f2 fun σ3 e3 f3 h3 => ?_
    simp only [sW_eq e3]
    refine kPush h3 (jPop_lt h2.1 hb) e3 f3 fun σ4 e4 f4 h4 => ?_
    simp only [sW_eq e4]
    exact ⟨e4, f4, h4⟩
theorem c_turn {a times b : Nat} (h : rJ J σ) (ha : a < 200) (hb : b < 200) (ht : times = 1 ∨ times = 2) : Dv (d + 1) 95 [.ref 50, .int (nI a), .int (nI times), .int (nI b)] σ (fun σ' => PJ (jTurn a times b J) σ σ') := by
  have fin : ∀ (K : JS) (σ1 : fkS), rJ K σ1 → σ1.2.2 = σ.2.2 → Fr sJg σ σ1 → jTurn a times b J = jPush b K → Wq 95 (d + 1) 3 [some (.ref 50), some (.int (nI a)), some (.int (nI times)), some (.int (nI b)), some (.int (nI times))] [] σ1 (Qv fun σ' => σ'.2.2 = σ.2.2 ∧ PJ (jTurn a times b J) σ σ') := fun K σ1 h1 e1 f1 hK => by
    refine S_Judge_turn_3 (pk_le times times (fun _ => ?_) (fun z => absurd z (by omega)))
    refine kPush h1 hb e1 f1 fun σ4 e4 f4 h4 => ?_
    simp only [sW_eq (e4.trans e1.symm)]
    rw [hK]
    exact ⟨e4, f4, h4⟩
  refine S_Judge_turn ?_
  refine S_Judge_turn_3 (pk_le times 0 (fun z => absurd z (by omega)) (fun _ => ?_))
  refine kPop (due := a) h ha rfl Fr.rf fun σ1 e1 f1 h1 => ?_
  simp only [sW_eq e1]
  rcases ht with rfl | rfl
  · exact fin _ σ1 h1 e1 f1 rfl
  · show Wq 95 (d + 1) 3 [some (.ref 50), some (.int (nI a)), some (.int (nI 2)), some (.int (nI b)), some (.int (nI 1))] [] σ1 _
    refine S_Judge_turn_3 (pk_le 2 1 (fun z => absurd z (by omega)) (fun _ => ?_))
    refine kPop (due := a) h1 ha e1 f1 fun σ2 e2 f2 h2 => ?_
    simp only [sW_eq (e2.trans e1.symm)]
    exact fin _ σ2 h2 e2 f2 rfl
theorem tyAt_get {ty : Nat} (h : ty < (mdT m).length) : (mdT m)[ty]? = some (tyAt m ty) := by
  unfold tyAt
  rw [List.getElem?_eq_getElem h]
  rfl
theorem c_tyG {ty : Nat} (hK : KX t n m σ) (hl : lenM m) (h : ty < (mdT m).length) : Di d 68 [.ref 24, .int (nI ty)] σ (fun r σ' => r = nI (tyAt m ty).2.2 ∧ σ' = σ) := by
  have l1 : (mdT m).length ≤ 60 := hl.1
  have e3 : (3 : Int32) * nI ty + 2 = nI (3 * ty + 2) := by rw [show (3 : Int32) = nI 3 from rfl, nI_mul, show (2 : Int32) = nI 2 from rfl, nI_add]
  refine S_ModuleRows_givenBy_v1 ?_
  rw [e3, nI_clamp (by omega)]
  exact ⟨vp_in_nI (by omega) (by decide), rfl, (hK.1.2 ty _ (tyAt_get h)).2.2, rfl⟩
theorem c_tyN {ty : Nat} (hK : KX t n m σ) (hl : lenM m) (h : ty < (mdT m).length) : Di d 86 [.ref 24, .int (nI ty)] σ (fun r σ' => r = nI (tyAt m ty).2.1 ∧ σ' = σ) := by
  have l1 : (mdT m).length ≤ 60 := hl.1
  have e3 : (3 : Int32) * nI ty + 1 = nI (3 * ty + 1) := by rw [show (3 : Int32) = nI 3 from rfl, nI_mul, nI_1]
  refine S_ModuleRows_argumentsOf_v1 ?_
  rw [e3, nI_clamp (by omega)]
  exact ⟨vp_in_nI (by omega) (by decide), rfl, (hK.1.2 ty _ (tyAt_get h)).2.1, rfl⟩
theorem tb {b : UInt8} (h : isT b.toNat) : b.toInt8.toInt32 = nI b.toNat := by
  have h2 := byT h
  have e : b = UInt8.ofNat b.toNat := UInt8.ofNat_toNat.symm
  rcases h with z | z
  · rw [z] at e
    rw [e]
    rfl
  · rw [z] at e
    rw [e]
    rfl
theorem c_tyA {ty j : Nat} (hK : KX t n m σ) (hl : lenM m) (hf : fcM t n m) (hn4 : n ≤ 4000) (h : ty < (mdT m).length) (hj : j < (tyAt m ty).2.1) : Di d 87 [.ref 24, .int (nI ty), .int (nI j)] σ (fun r σ' => r = nI (t ((tyAt m ty).1 + j)).toNat ∧ σ' = σ) := by
  have l1 : (mdT m).length ≤ 60 := hl.1
  obtain ⟨f1, f2, f3, f4⟩ := hf.1 _ (List.mem_of_getElem? (tyAt_get h))
  have e3 : (3 : Int32) * nI ty = nI (3 * ty) := by rw [show (3 : Int32) = nI 3 from rfl, nI_mul]
  refine S_ModuleRows_argumentType_v1 ?_
  rw [e3, nI_clamp (n := 3 * ty) (by omega), (hK.1.2 ty _ (tyAt_get h)).1, nI_add, nI_clamp (by omega)]
  refine ⟨vp_in_nI (by omega) (by decide), vp_in_nI (by omega) (by decide), rfl, ?_, rfl⟩
  rw [hK.2.2.2.2.2.2.2.1 _ (by omega)]
  exact tb (f2 j hj)
end OPSX
