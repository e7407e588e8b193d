/-! A MODULE IS MADE: what comes of it; the class -/
def eo (x : El) : Nat := (x.2.1.toBitVec.setWidth 32).toNat
theorem eo_lt (x : El) : eo x < 2 ^ 32 := (x.2.1.toBitVec.setWidth 32).isLt
theorem eo_and (x : El) : (x.2.1 &&& (Int64.ofNat 4294967295)) = lN (eo x) := by
  apply Int64.toBitVec_inj.mp
  rw [Int64.toBitVec_and]
  show x.2.1.toBitVec &&& BitVec.ofNat 64 4294967295 = BitVec.ofNat 64 (x.2.1.toBitVec.setWidth 32).toNat
  apply BitVec.eq_of_toNat_eq
  rw [BitVec.toNat_and, BitVec.toNat_ofNat, BitVec.toNat_ofNat, BitVec.toNat_setWidth]
  rw [show (4294967295 % 2 ^ 64 : Nat) = 2 ^ 32 - 1 by decide, Nat.and_two_pow_sub_one_eq_mod]
  omega
theorem eo_i32 (x : El) : x.2.1.toInt32 = nI (eo x) := by
  apply Int32.toBitVec_inj.mp
  show x.2.1.toBitVec.signExtend 32 = BitVec.ofNat 32 (x.2.1.toBitVec.setWidth 32).toNat
  rw [BitVec.signExtend_eq_setWidth_of_le _ (by decide), BitVec.ofNat_toNat, BitVec.setWidth_eq]
def lsN (l : List Li) : Nat := if l.length = 1 then (liLast l).1 else 0
/-- places of the table, pages of the memory, as it is made -/
def tbN (m : Md) : Nat := lsN (mdA m)
def pgN (m : Md) : Nat := lsN (mdM m)
def mkOk (m : Md) : Bool := (mdL m).all fun x => decide (eo x + x.2.2.length ≤ tbN m)
def tbT (T : Nat → Int32) (x : El) : Nat → Int32 := fun k => if eo x ≤ k ∧ k < eo x + x.2.2.length then nI ((x.2.2[k - eo x]?).getD 0) else T k
def tbF (l : List El) : Nat → Int32 := l.foldl tbT (fun _ => -1)
theorem tbF_succ {l : List El} {k : Nat} {x : El} (h : l[k]? = some x) : tbF (l.take (k + 1)) = tbT (tbF (l.take k)) x := by
  unfold tbF
  rw [List.take_add_one, h, List.foldl_append]
  rfl
theorem vd_facts {t : Nat → UInt8} {m : Md} (h : vdM t m = 0) : vTy m = true ∧ (mdA m).length ≤ 1 ∧ (mdM m).length ≤ 1 ∧ limOf 100 (mdA m) = 0 ∧ limOf 2 (mdM m) = 0 ∧ vGl m = true ∧ vEx t m = true ∧ vEl m = true ∧ vFs t m = true := by
  unfold vdM at h
  by_cases z1 : vTy m = false ∨ 1 < (mdA m).length ∨ 1 < (mdM m).length
  · rw [if_pos z1] at h
    exact absurd h (by decide)
  rw [if_neg z1] at h
  by_cases z2 : limOf 100 (mdA m) ≠ 0
  · rw [if_pos z2] at h
    exact absurd h z2
  rw [if_neg z2] at h
  by_cases z3 : limOf 2 (mdM m) ≠ 0
  · rw [if_pos z3] at h
    exact absurd h z3
  rw [if_neg z3] at h
  by_cases z4 : (vGl m && vEx t m && vEl m) = false
  · rw [if_pos z4] at h
    exact absurd h (by decide)
  rw [if_neg z4] at h
  by_cases z5 : vFs t m = true
  · have z4' : (vGl m && vEx t m && vEl m) = true := by
      cases hh : (vGl m && vEx t m && vEl m)
      · exact absurd hh z4
      · rfl
    rw [Bool.and_eq_true, Bool.and_eq_true] at z4'
    have z1' : vTy m = true := by
      cases hh : vTy m
      · exact absurd (Or.inl hh) z1
      · rfl
    exact ⟨z1', by omega, by omega, Decidable.of_not_not z2, Decidable.of_not_not z3, z4'.1.1, z4'.1.2, z4'.2, z5⟩
  · rw [if_neg z5] at h
    exact absurd h (by decide)
theorem lim_le {most : Nat} {l : List Li} (h : limOf most l = 0) : lsN l ≤ most ∧ (l.length = 1 → ∀ b, (liLast l).2 = some b → b ≤ most) := by
  unfold limOf at h
  unfold lsN
  by_cases z : l.length = 1
  · rw [if_pos z] at h ⊢
    unfold liV at h
    by_cases z1 : lmB (liLast l) = true
    · rw [if_pos z1] at h
      exact absurd h (by decide)
    rw [if_neg z1] at h
    by_cases z2 : lmH most (liLast l) = true
    · rw [if_pos z2] at h
      exact absurd h (by decide)
    unfold lmH at z2
    rw [Bool.or_eq_true, not_or] at z2
    obtain ⟨a, b⟩ := z2
    rw [decide_eq_true_iff] at a
    refine ⟨by omega, fun _ c hc => ?_⟩
    rw [hc] at b
    have b2 : ¬ decide (most < c) = true := b
    rw [decide_eq_true_iff] at b2
    omega
  · rw [if_neg z]
    exact ⟨Nat.zero_le _, fun y => absurd y z⟩
/-- a module's rows in the class, but for its labels -/
def DY (t : Nat → UInt8) (n : Nat) (m : Md) (σ : fkS) : Prop := DT (mdT m) σ ∧ DU (mdU m) σ ∧ DA (mdA m) σ ∧ DM (mdM m) σ ∧ DG (mdG m) σ ∧ DE (mdE m) σ ∧ DL (mdL m) σ ∧ rF1 (mdC m).1 σ ∧ DCk (mdC m).2 σ ∧ σ.1 36 5 = nI (mdC m).2.length ∧ ∀ k, k < n → σ.1 25 k = (t k).toInt8.toInt32
theorem DX.dy {t : Nat → UInt8} {n : Nat} {m : Md} {σ : fkS} (h : DX m σ) (h25 : ∀ k, k < n → σ.1 25 k = (t k).toInt8.toInt32) (hC4 : (mdC m).2.length ≤ 4000) (hC : fC (mdC m).2) : DY t n m σ := by
  obtain ⟨h1, h2, h3, h4, h5, h6, h7, ⟨h8, h9⟩, h10, ⟨h11, h12, h13, h14, h15⟩, h16, h17⟩ := h
  exact ⟨h1, h2, h3, h4, h5, h6, h7, h9, ⟨hC4, fun k i hi => ⟨h13 k i hi, (hC.1 i (List.mem_of_getElem? hi)).1⟩, h15, h17⟩, h11, h25⟩
theorem DY.fr {t : Nat → UInt8} {n : Nat} {m : Md} {S : Nat → Nat → Bool} {σ σ' : fkS} (h : DY t n m σ) (f : Fr S σ σ') (h0 : ∀ c j, 24 ≤ c → c < 44 → S c j = false) : DY t n m σ' := by
  obtain ⟨h1, h2, h3, h4, h5, h6, h7, h8, h9, h10, h11⟩ := h
  have z : ∀ {c j}, 24 ≤ c → c < 44 → S c j = false := fun {c j} a b => h0 c j a b
  refine ⟨h1.fr f (z (by decide) (by decide)) (fun _ => z (by decide) (by decide)), h2.fr f (z (by decide) (by decide)) (fun _ => z (by decide) (by decide)), h3.fr f (z (by decide) (by decide)) (fun _ => z (by decide) (by decide)), h4.fr f (z (by decide) (by decide)) (fun _ => z (by decide) (by decide)), h5.fr f (z (by decide) (by decide)) (fun _ => z (by decide) (by decide)) (fun _ => z (by decide) (by decide)), h6.fr f (z (by decide) (by decide)) (fun _ => z (by decide) (by decide)), h7.fr f (z (by decide) (by decide)) (z (by decide) (by decide)) (fun _ => z (by decide) (by decide)) (fun _ => z (by decide) (by decide)) (fun _ => z (by decide) (by decide)), fun k x hx => ?_, h9.fr f fun c j a b => z (by omega) (by omega), (f _ _ (z (by decide) (by decide))).1.trans h10, fun k hk => (f _ _ (z (c := 25) (j := k) (by decide) (by decide))).1.trans (h11 k hk)⟩
  obtain ⟨a1, a2, a3, a4⟩ := h8 k x hx
  exact ⟨(f _ _ (z (by decide) (by decide))).1.trans a1, (f _ _ (z (by decide) (by decide))).1.trans a2, (f _ _ (z (by decide) (by decide))).1.trans a3, fun j y hy => (f _ _ (z (by decide) (by decide))).1.trans (a4 j y hy)⟩
/-- the class's machine as a module is made -/
def mkX (m : Md) (σ : fkS) : Prop := (∀ (k : Nat) (x : Gl), (mdG m)[k]? = some x → σ.2.1 57 k = x.2.2.2) ∧ (∀ k, k < 16384 → σ.2.1 58 k = 0) ∧ σ.1 56 4 = nI (pgN m) ∧ σ.1 56 6 = nI (tbN m) ∧ ∀ k, k < 100 → σ.1 59 k = tbF (mdL m) k
def sMk (c j : Nat) : Bool := (Nat.beq c 56 && (Nat.beq j 4 || Nat.beq j 6)) || Nat.beq c 57 || Nat.beq c 58 || Nat.beq c 59
theorem elBase_eq (l : List El) (k : Nat) : elBase l k = (elAll (l.take k)).length := by
  rw [← elBase_len]
  unfold elBase
  rw [List.take_length]
theorem elAll_split {l : List El} {k : Nat} {x : El} (h : l[k]? = some x) : elAll l = elAll (l.take k) ++ (x.2.2 ++ elAll (l.drop (k + 1))) := by
  obtain ⟨hlt, hx⟩ := List.getElem?_eq_some_iff.mp h
  conv => lhs; rw [← List.take_append_drop k l, List.drop_eq_getElem_cons hlt, hx]
  unfold elAll
  rw [List.flatMap_append, List.flatMap_cons]
theorem sI_ne2 {σ : fkS} {c j a b : Nat} {v : Int32} (h : ¬ (a = c ∧ b = j)) : (sI σ c j v).1 a b = σ.1 a b := by
  by_cases z : a = c
  · subst z
    rw [sI3, if_neg fun q => h ⟨rfl, q⟩]
  · exact congrFun (sI_o z) b
section MAKEX
variable {t : Nat → UInt8} {n d : Nat} {m : Md} {σ : fkS}
theorem w_fill0 {σ0 : fkS} : ∀ (r k : Nat) (σ : fkS), k + r = 16384 → σ.1 = σ0.1 → σ.2.2 = σ0.2.2 → (∀ c, c ≠ 58 → σ.2.1 c = σ0.2.1 c) → (∀ j, j < k → σ.2.1 58 j = 0) → Wq 97 d 6 [some (.ref 58), some (.long (0 : Int64)), none, some (.int (nI k)), some (.int (16384 : Int32))] [] σ (Qv fun σ' => σ'.1 = σ0.1 ∧ σ'.2.2 = σ0.2.2 ∧ (∀ c, c ≠ 58 → σ'.2.1 c = σ0.2.1 c) ∧ ∀ j, j < 16384 → σ'.2.1 58 j = 0)
  | 0, k, σ, hk, h1, h2, h3, h4 => by
    have hk : k = 16384 := by omega
    subst hk
    exact S_jArrays_fill0_6 (pk_le 16384 16384 (fun _ => ⟨h1, h2, h3, h4⟩) fun z => absurd z (by omega))
  | r + 1, k, σ, hk, h1, h2, h3, h4 => by
    refine S_jArrays_fill0_6 (pk_le 16384 k (fun z => absurd z (by omega)) fun _ => ⟨vp_in_nI (by omega) (by decide), ?_⟩)
    rw [nI_clamp (by omega), nI_1]
    refine w_fill0 r (k + 1) _ (by omega) h1 h2 (fun c hc => (sL_o hc).trans (h3 c hc)) fun j hj => ?_
    rw [sL3]
    by_cases z : j = k
    · rw [if_pos z]
    · rw [if_neg z]
      exact h4 j (by omega)
theorem w_fill1 {σ0 : fkS} : ∀ (r k : Nat) (σ : fkS), k + r = 100 → σ.2.1 = σ0.2.1 → σ.2.2 = σ0.2.2 → (∀ c, c ≠ 59 → σ.1 c = σ0.1 c) → (∀ j, j < k → σ.1 59 j = -1) → Wq 98 d 5 [some (.ref 59), some (.int (-1 : Int32)), some (.int (nI k)), some (.int (100 : Int32))] [] σ (Qv fun σ' => σ'.2.1 = σ0.2.1 ∧ σ'.2.2 = σ0.2.2 ∧ (∀ c, c ≠ 59 → σ'.1 c = σ0.1 c) ∧ ∀ j, j < 100 → σ'.1 59 j = -1)
  | 0, k, σ, hk, h1, h2, h3, h4 => by
    have hk : k = 100 := by omega
    subst hk
    exact S_jArrays_fill1_5 (pk_le 100 100 (fun _ => ⟨h1, h2, h3, h4⟩) fun z => absurd z (by omega))
  | r + 1, k, σ, hk, h1, h2, h3, h4 => by
    refine S_jArrays_fill1_5 (pk_le 100 k (fun z => absurd z (by omega)) fun _ => ⟨vp_in_nI (by omega) (by decide), ?_⟩)
    rw [nI_clamp (by omega), nI_1]
    refine w_fill1 r (k + 1) _ (by omega) h1 h2 (fun c hc => (sI_o hc).trans (h3 c hc)) fun j hj => ?_
    rw [sI3]
    by_cases z : j = k
    · rw [if_pos z]
    · rw [if_neg z]
      exact h4 j (by omega)
theorem c_fill0 {Q : fkS → Prop} (h : ∀ σ', σ'.1 = σ.1 → σ'.2.2 = σ.2.2 → (∀ c, c ≠ 58 → σ'.2.1 c = σ.2.1 c) → (∀ j, j < 16384 → σ'.2.1 58 j = 0) → Q σ') : Dv d 97 [.ref 58, .long (0 : Int64)] σ Q := by
  refine S_jArrays_fill0 ((w_fill0 (σ0 := σ) 16384 0 σ (by decide) rfl rfl (fun _ _ => rfl) fun j hj => absurd hj (Nat.not_lt_zero j)).mono fun x σ1 hx => ?_)
  obtain ⟨rfl, a1, a2, a3, a4⟩ := Qv_s hx
  exact ⟨a2, h σ1 a1 a2 a3 a4⟩
theorem c_fill1 {Q : fkS → Prop} (h : ∀ σ', σ'.2.1 = σ.2.1 → σ'.2.2 = σ.2.2 → (∀ c, c ≠ 59 → σ'.1 c = σ.1 c) → (∀ j, j < 100 → σ'.1 59 j = -1) → Q σ') : Dv d 98 [.ref 59, .int (-1 : Int32)] σ Q := by
  refine S_jArrays_fill1 ((w_fill1 (σ0 := σ) 100 0 σ (by decide) rfl rfl (fun _ _ => rfl) fun j hj => absurd hj (Nat.not_lt_zero j)).mono fun x σ1 hx => ?_)
  obtain ⟨rfl, a1, a2, a3, a4⟩ := Qv_s hx
  exact ⟨a2, h σ1 a1 a2 a3 a4⟩
theorem w_mk140 (hf : fcM t n m) (hL8 : (elAll (mdL m)).length ≤ 4000) (hl7 : (mdL m).length ≤ 60) (hok : mkOk m = true) (htb : tbN m ≤ 100) {σ0 : fkS} (hD : DL (mdL m) σ0) {Q : fkS → Prop} (hQ : ∀ σ', σ'.2 = σ0.2 → (∀ c, c ≠ 59 → σ'.1 c = σ0.1 c) → (∀ k, k < 100 → σ'.1 59 k = tbF (mdL m) k) → Q σ') :
    ∀ (r k : Nat) (σ : fkS), k + r = (mdL m).length → σ.2 = σ0.2 → (∀ c, c ≠ 59 → σ.1 c = σ0.1 c) → (∀ j, j < 100 → σ.1 59 j = tbF ((mdL m).take k) j) → Wq 96 (d + 1) 140 [some (.ref 56), some (.ref 24), none, some (.int (nI k))] [] σ (Qi fun x σ' => x = 1 ∧ Q σ')
  | r, k, σ, hk, h2, h3, h4 => by
    obtain ⟨b1, b2, b3, b4⟩ := hD
    have e24 : σ.1 24 14 = nI (mdL m).length := (congrFun (h3 24 (by decide)) _).trans b1
    refine S_Machine_make_140 ?_
    rw [e24]
    match r with
    | 0 =>
      have hk : k = (mdL m).length := by omega
      subst hk
      rw [List.take_length] at h4
      exact pk_le (mdL m).length (mdL m).length (fun _ => ⟨rfl, hQ σ h2 h3 h4⟩) fun z => absurd z (by omega)
    | r + 1 =>
      have hlt : k < (mdL m).length := by omega
      have hx : (mdL m)[k]? = some (mdL m)[k] := List.getElem?_eq_getElem hlt
      generalize hxx : (mdL m)[k] = x at hx
      obtain ⟨c1, c2, c3, c4⟩ := b2 k x hx
      have hfit := List.all_eq_true.mp hok x (List.mem_of_getElem? hx)
      rw [decide_eq_true_iff] at hfit
      have hlen := (hf.2.2.2.2.2.2 x (List.mem_of_getElem? hx)).2.1
      have hsp := elAll_split hx
      have heb := elBase_eq (mdL m) k
      have hbase : elBase (mdL m) k + x.2.2.length ≤ (elAll (mdL m)).length := by
        rw [hsp, heb, List.length_append, List.length_append]
        omega
      have e31 : (3 : Int32) * nI k + (1 : Int32) = nI (3 * k + 1) := by rw [show (3 : Int32) = nI 3 from rfl, nI_mul, nI_1]
      have e32 : (3 : Int32) * nI k + (2 : Int32) = nI (3 * k + 2) := by rw [show (3 : Int32) = nI 3 from rfl, show (2 : Int32) = nI 2 from rfl, nI_mul, nI_add]
      have k33 : ∀ j, σ.1 33 j = σ0.1 33 j := fun j => congrFun (h3 33 (by decide)) j
      have k34 : ∀ j, σ.2.1 34 j = σ0.2.1 34 j := fun j => by rw [h2]
      have k35 : σ.1 35 = σ0.1 35 := h3 35 (by decide)
      refine pk_le (mdL m).length k (fun z => absurd z (by omega)) fun _ => ?_
      rw [e31, e32, nI_1, nI_clamp (n := 3 * k + 1) (by omega), nI_clamp (n := 3 * k + 2) (by omega), nI_clamp (n := k) (by omega), k33, k33, k34, c2, c3, c4, eo_i32, nI_clamp (n := elBase (mdL m) k) (by omega), nI_clamp (n := eo x) (by omega), nI_clamp (n := x.2.2.length) (by omega)]
      refine ⟨vp_in_nI (by omega) (by decide), vp_in_nI (by omega) (by decide), vp_in_nI (by omega) (by decide), nI_pos (by omega), nI_pos (by omega), nI_pos (by omega), by omega, by omega, ?_⟩
      refine w_mk140 hf hL8 hl7 hok htb ⟨b1, b2, b3, b4⟩ hQ r (k + 1) _ (by omega) h2 (fun c hc => (sAI_o hc).trans (h3 c hc)) fun j hj => ?_
      rw [sAI_s, tbF_succ hx]
      unfold tbT va_cpy
      by_cases z : eo x ≤ j ∧ j < eo x + x.2.2.length
      · rw [if_pos z, if_pos z, k35]
        have hj2 : j - eo x < x.2.2.length := by omega
        have hg : x.2.2[j - eo x]? = some x.2.2[j - eo x] := List.getElem?_eq_getElem hj2
        rw [hg]
        refine b4 _ _ ?_
        rw [hsp, heb, List.getElem?_append_right (by omega), Nat.add_sub_cancel_left, List.getElem?_append_left hj2]
        exact hg
      · rw [if_neg z, if_neg z]
        exact h4 j hj
theorem c_make (hl : lenM m) (hf : fcM t n m) (hY : DY t n m σ) (hA1 : (mdA m).length ≤ 1) (hM1 : (mdM m).length ≤ 1) (htb : tbN m ≤ 100) (hL8 : (elAll (mdL m)).length ≤ 4000) : Ci (d + 1) 96 [.ref 56, .ref 24] σ (fun x σ' => (mkOk m = false ∧ x = 0 ∧ σ' = σ) ∨ (mkOk m = true ∧ x = 1 ∧ σ'.2.2 = (sR (sR σ 56 0 25) 56 1 37).2.2 ∧ Fr sMk (sR (sR σ 56 0 25) 56 1 37) σ' ∧ mkX m σ')) := by
  obtain ⟨hT, hU, hA, hM, hG, hE, hL, -⟩ := hY
  have l5 : (mdG m).length ≤ 60 := hl.2.2.2.2.1
  have l7 : (mdL m).length ≤ 60 := hl.2.2.2.2.2.2.1
  have e32 : ∀ k : Nat, (3 : Int32) * nI k + (2 : Int32) = nI (3 * k + 2) := fun k => by rw [show (3 : Int32) = nI 3 from rfl, show (2 : Int32) = nI 2 from rfl, nI_mul, nI_add]
  have fin : mkOk m = true → Wq 96 (d + 1) 21 [some (.ref 56), some (.ref 24), some (.int (nI (tbN m))), some (.int (nI (mdL m).length))] [] σ (Qi fun x σ' => (mkOk m = false ∧ x = 0 ∧ σ' = σ) ∨ (mkOk m = true ∧ x = 1 ∧ σ'.2.2 = (sR (sR σ 56 0 25) 56 1 37).2.2 ∧ Fr sMk (sR (sR σ 56 0 25) 56 1 37) σ' ∧ mkX m σ')) := fun hok => by
    refine S_Machine_make_21 ?_
    rw [hL.1, hG.1, nI_clamp (n := (mdG m).length) (by omega)]
    refine pk_le (mdL m).length (mdL m).length (fun _ => ?_) fun z => absurd z (by omega)
    refine ⟨by decide, by decide, nI_pos (by omega), by show 0 + (mdG m).length ≤ 60; omega, by show 0 + (mdG m).length ≤ 60; omega, ?_⟩
    generalize hτ : sAL (sR (sR σ 56 0 25) 56 1 37) 57 (va_cpy (σ.2.1 31) (σ.2.1 57) (0 : Int32).toNatClampNeg (0 : Int32).toNatClampNeg (mdG m).length) = τ
    have g1 : ∀ (k : Nat) (x : Gl), (mdG m)[k]? = some x → τ.2.1 57 k = x.2.2.2 := fun k x hx => by
      have hk := get_lt hx
      subst hτ
      rw [sAL_s]
      show va_cpy _ _ 0 0 _ k = _
      rw [pk_cpy_in (Nat.zero_le _) (by omega)]
      show σ.2.1 31 (0 + (k - 0)) = _
      rw [Nat.sub_zero, Nat.zero_add]
      exact (hG.2 k x hx).2.2.2
    have g2 : Fr sMk (sR (sR σ 56 0 25) 56 1 37) τ := by
      subst hτ
      intro c j hcj
      refine ⟨rfl, ?_, rfl⟩
      by_cases z : c = 57
      · subst z
        cases hcj
      · exact congrFun (sAL_o z) j
    have g3 : τ.2.2 = (sR (sR σ 56 0 25) 56 1 37).2.2 := by subst hτ; rfl
    have g4 : ∀ c, c ≠ 57 → τ.2.1 c = σ.2.1 c := by subst hτ; exact fun c hc => sAL_o hc
    have g5 : τ.1 = σ.1 := by subst hτ; rfl
    clear hτ
    refine c_fill0 fun σ1 a1 a2 a3 a4 => ?_
    have aW : sW σ1 (sR (sR σ 56 0 25) 56 1 37) = σ1 := sW_eq (a2.trans g3)
    rw [aW]
    have e7 : σ1.1 24 7 = nI (mdM m).length := by rw [a1, g5]; exact hM.1
    have tail : ∀ σ2 : fkS, σ2.2 = σ1.2 → (∀ c j, ¬ (c = 56 ∧ (j = 4 ∨ j = 6)) → σ2.1 c j = σ1.1 c j) → σ2.1 56 4 = nI (pgN m) → σ2.1 56 6 = nI (tbN m) → Dv d 98 [.ref 59, .int (-1 : Int32)] σ2 (fun σ3 => Wq 96 (d + 1) 140 [some (.ref 56), some (.ref 24), none, some (.int (0 : Int32))] [] (sW σ3 (sR (sR σ 56 0 25) 56 1 37)) (Qi fun x σ' => (mkOk m = false ∧ x = 0 ∧ σ' = σ) ∨ (mkOk m = true ∧ x = 1 ∧ σ'.2.2 = (sR (sR σ 56 0 25) 56 1 37).2.2 ∧ Fr sMk (sR (sR σ 56 0 25) 56 1 37) σ' ∧ mkX m σ'))) := fun σ2 b1 b2 b3 b4 => by
      refine c_fill1 fun σ3 c1 c2 c3 c4 => ?_
      have c22 : σ3.2 = σ1.2 := (Prod.ext c1 c2 : σ3.2 = σ2.2).trans b1
      rw [sW_eq (show σ3.2.2 = _ by rw [c22, a2, g3])]
      have hDL3 : DL (mdL m) σ3 := by
        have k1 : ∀ c j, c ≠ 59 → c ≠ 56 → σ3.1 c j = σ.1 c j := fun c j h1 h2 => (congrFun (c3 c h1) j).trans ((b2 c j (fun z => h2 z.1)).trans (by rw [a1, g5]))
        have k2 : ∀ c j, c ≠ 57 → c ≠ 58 → σ3.2.1 c j = σ.2.1 c j := fun c j h1 h2 => by rw [c22, a3 c h2, g4 c h1]
        obtain ⟨d1, d2, d3, d4⟩ := hL
        refine ⟨(k1 _ _ (by decide) (by decide)).trans d1, fun k x hx => ?_, (k1 _ _ (by decide) (by decide)).trans d3, fun k x hx => (k1 _ _ (by decide) (by decide)).trans (d4 k x hx)⟩
        obtain ⟨f1, f2, f3, f4⟩ := d2 k x hx
        exact ⟨(k1 _ _ (by decide) (by decide)).trans f1, (k1 _ _ (by decide) (by decide)).trans f2, (k1 _ _ (by decide) (by decide)).trans f3, (k2 _ _ (by decide) (by decide)).trans f4⟩
      refine (w_mk140 (d := d) (σ0 := σ3) hf hL8 l7 hok htb hDL3 (Q := fun σ' => σ'.2.2 = (sR (sR σ 56 0 25) 56 1 37).2.2 ∧ Fr sMk (sR (sR σ 56 0 25) 56 1 37) σ' ∧ mkX m σ') (fun σ' q1 q2 q3 => ?_) (mdL m).length 0 σ3 (by omega) rfl (fun _ _ => rfl) fun j hj => c4 j hj).mono fun x σ' hx => ?_
      · have q1' : σ'.2 = σ1.2 := q1.trans c22
        refine ⟨by rw [q1', a2, g3], fun c j hcj => ?_, fun k x hx => ?_, fun k hk => ?_, ?_, ?_, q3⟩
        · unfold sMk at hcj
          simp only [Bool.or_eq_false_iff, Bool.and_eq_false_iff] at hcj
          obtain ⟨⟨⟨w1, w2⟩, w3⟩, w4⟩ := hcj
          have v2 : c ≠ 57 := fun z => by subst z; exact absurd w2 (by decide)
          have v3 : c ≠ 58 := fun z => by subst z; exact absurd w3 (by decide)
          have v4 : c ≠ 59 := fun z => by subst z; exact absurd w4 (by decide)
          have v1 : ¬ (c = 56 ∧ (j = 4 ∨ j = 6)) := by
            rintro ⟨z1, z2⟩
            subst z1
            rcases w1 with w | w
            · exact absurd w (by decide)
            · rcases z2 with z | z
              · subst z
                exact absurd w.1 (by decide)
              · subst z
                exact absurd w.2 (by decide)
          refine ⟨?_, ?_, ?_⟩
          · rw [q2 c v4, c3 c v4, b2 c j v1, a1, g5]
            rfl
          · rw [q1', a3 c v3, g4 c v2]
            rfl
          · rw [q1', a2, g3]
        · rw [q1', a3 57 (by decide)]
          exact g1 k x hx
        · rw [q1']
          exact a4 k hk
        · rw [q2 56 (by decide), c3 56 (by decide)]
          exact b3
        · rw [q2 56 (by decide), c3 56 (by decide)]
          exact b4
      · obtain ⟨v, rfl, rfl, hq⟩ := Qi_s hx
        exact Or.inr ⟨hok, rfl, hq⟩
    refine And.comm.mp ⟨fun z => ?_, fun z => ?_⟩
    · refine ⟨vp_in_nI (n := 0) (by decide) (by decide), tail _ rfl (fun c j hcj => ?_) ?_ rfl⟩
      · rw [sI_ne2 (fun q => hcj ⟨q.1, .inr q.2⟩), sI_ne2 (fun q => hcj ⟨q.1, .inl q.2⟩)]
      · have h1 : (mdM m).length = 1 := by
          rw [e7] at z
          have : ¬ (mdM m).length ≤ 0 := fun y => z (by rw [Nat.le_zero.mp y]; decide)
          omega
        obtain ⟨y1, y2⟩ := li_get h1
        show (σ1.2.1 29 0).toInt32 = _
        rw [a3 29 (by decide), g4 29 (by decide), (hM.2 _ y1).1, lN_i32]
        unfold pgN lsN
        rw [if_pos h1]
    · refine tail _ rfl (fun c j hcj => ?_) ?_ rfl
      · rw [sI_ne2 (fun q => hcj ⟨q.1, .inr q.2⟩), sI_ne2 (fun q => hcj ⟨q.1, .inl q.2⟩)]
      · have h1 : ¬ (mdM m).length = 1 := fun y => by
          rw [e7, y] at z
          exact absurd z (by decide)
        show (0 : Int32) = _
        unfold pgN lsN
        rw [if_neg h1]
        rfl
  have go : Wq 96 (d + 1) 21 [some (.ref 56), some (.ref 24), some (.int (nI (tbN m))), some (.int (nI 0))] [] σ (Qi fun x σ' => (mkOk m = false ∧ x = 0 ∧ σ' = σ) ∨ (mkOk m = true ∧ x = 1 ∧ σ'.2.2 = (sR (sR σ 56 0 25) 56 1 37).2.2 ∧ Fr sMk (sR (sR σ 56 0 25) 56 1 37) σ' ∧ mkX m σ')) := by
    refine allR (l := mdL m) (p := fun x => decide (eo x + x.2.2.length ≤ tbN m)) (W := fun k => Wq 96 (d + 1) 21 [some (.ref 56), some (.ref 24), some (.int (nI (tbN m))), some (.int (nI k))] [] σ (Qi fun x σ' => (mkOk m = false ∧ x = 0 ∧ σ' = σ) ∨ (mkOk m = true ∧ x = 1 ∧ σ'.2.2 = (sR (sR σ 56 0 25) 56 1 37).2.2 ∧ Fr sMk (sR (sR σ 56 0 25) 56 1 37) σ' ∧ mkX m σ'))) (Y := fun b => b = mkOk m) rfl (fun h => fin h.symm) fun k x hx hn hF => ?_
    have hk := get_lt hx
    obtain ⟨c1, c2, c3, c4⟩ := hL.2.1 k x hx
    have hlen := (hf.2.2.2.2.2.2 x (List.mem_of_getElem? hx)).2.1
    have ho := eo_lt x
    refine S_Machine_make_21 ?_
    rw [hL.1]
    refine pk_le (mdL m).length k (fun z => absurd z (by omega)) fun _ => ?_
    rw [e32, nI_clamp (n := 3 * k + 2) (by omega), nI_clamp (n := k) (by omega), c3, c4, eo_and, nI_l (by omega), nI_l (by omega), lg_cmp_le, show lN (eo x) + lN x.2.2.length = lN (eo x + x.2.2.length) from (Int64.ofNat_add _ _).symm, pk_lLE (by omega) (by omega)]
    refine ⟨vp_in_nI (by omega) (by decide), vp_in_nI (by omega) (by decide), fun z => ?_, fun z => ?_⟩
    · rw [nI_1]
      exact hn (decide_eq_true z)
    · exact Or.inl ⟨(hF (decide_eq_false z)).symm, rfl, rfl⟩
  refine S_Machine_make ?_
  refine And.comm.mp ⟨fun z => ?_, fun z => ?_⟩
  · have h1 : (mdA m).length = 1 := by
      rw [hA.1] at z
      have : ¬ (mdA m).length ≤ 0 := fun y => z (by rw [Nat.le_zero.mp y]; decide)
      omega
    obtain ⟨y1, y2⟩ := li_get h1
    refine ⟨vp_in_nI (n := 0) (by decide) (by decide), ?_⟩
    show Wq 96 (d + 1) 21 [some (.ref 56), some (.ref 24), some (.int ((σ.2.1 28 0).toInt32)), some (.int (nI 0))] [] σ _
    rw [(hA.2 _ y1).1, lN_i32]
    have : (liLast (mdA m)).1 = tbN m := by
      unfold tbN lsN
      rw [if_pos h1]
    rw [this]
    exact go
  · have h1 : ¬ (mdA m).length = 1 := fun y => by
      rw [hA.1, y] at z
      exact absurd z (by decide)
    have : tbN m = 0 := by
      unfold tbN lsN
      rw [if_neg h1]
    rw [this] at go
    exact go
end MAKEX
