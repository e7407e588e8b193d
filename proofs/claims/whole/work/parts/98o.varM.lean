/-! THE JUDGE OF A FUNCTION: calls, select, variables; the reference -/
/-- the reference's rows that a judge reads -/
def KM (t : Nat → UInt8) (n b : Nat) (m : Md) (σ : fkS) : Prop := b < 2 ∧ σ.1 103 38 = nI b ∧ MX t b m σ ∧ (∀ k, k < n → σ.1 105 (4000 * b + k) = bI (t k)) ∧ n ≤ 4000
theorem MX.fr {t : Nat → UInt8} {b : Nat} {m : Md} {S : Nat → Nat → Bool} {σ σ' : fkS} (h : MX t b m σ) (hl : lenM m) (f : Fr S σ σ') (h0 : ∀ c j, 105 ≤ c → c ≤ 138 → S c j = false) : MX t b m σ' := by
  obtain ⟨hT, hU, hA, hM, hG, hE, hL, hC⟩ := h
  obtain ⟨lT, lU, lA, lM, lG, lE, lL, lC⟩ := hl
  have z : ∀ {c j}, 105 ≤ c → c ≤ 138 → S c j = false := fun {c j} a b => h0 c j a b
  exact ⟨hT.fr lT f (fun _ _ => z (by decide) (by decide)) (fun _ _ _ _ => z (by decide) (by decide)) (fun _ _ => z (by decide) (by decide)) (z (by decide) (by decide)), hU.fr lU f (fun _ _ => z (by decide) (by decide)) (z (by decide) (by decide)), hA.fr lA f (z (by decide) (by decide)) (z (by decide) (by decide)) (z (by decide) (by decide)), hM.fr lM f (z (by decide) (by decide)) (z (by decide) (by decide)) (z (by decide) (by decide)), hG.fr lG f (fun _ _ => z (by decide) (by decide)) (fun _ _ => z (by decide) (by decide)) (fun _ _ => z (by decide) (by decide)) (fun _ _ => z (by decide) (by decide)) (z (by decide) (by decide)), hE.fr lE f (fun _ _ => z (by decide) (by decide)) (fun _ _ => z (by decide) (by decide)) (fun _ _ => z (by decide) (by decide)) (fun _ _ => z (by decide) (by decide)) (z (by decide) (by decide)), hL.fr lL f (fun _ _ => z (by decide) (by decide)) (fun _ _ => z (by decide) (by decide)) (fun _ _ => z (by decide) (by decide)) (fun _ _ _ _ => z (by decide) (by decide)) (z (by decide) (by decide)), hC.fr lC f (fun _ _ => z (by decide) (by decide)) (fun _ _ _ _ => z (by decide) (by decide)) (fun _ _ => z (by decide) (by decide)) (fun _ _ => z (by decide) (by decide)) (fun _ _ => z (by decide) (by decide)) (z (by decide) (by decide))⟩
theorem KM.fr {t : Nat → UInt8} {n b : Nat} {m : Md} {S : Nat → Nat → Bool} {σ σ' : fkS} (h : KM t n b m σ) (hl : lenM m) (f : Fr S σ σ') (h38 : S 103 38 = false) (h0 : ∀ c j, 105 ≤ c → c ≤ 138 → S c j = false) : KM t n b m σ' := by
  obtain ⟨h1, h2, h3, h4, h5⟩ := h
  exact ⟨h1, (f _ _ h38).1.trans h2, h3.fr hl f h0, fun k hk => (f _ _ (h0 105 _ (by decide) (by decide))).1.trans (h4 k hk), h5⟩
theorem sMJ_mid {c j : Nat} (h : 103 < c) (h2 : c < 140) : sMJ c j = false := by
  unfold sMJ
  rw [sMg_mid h h2, fM_hi h]
  rfl
theorem KM.fj {t : Nat → UInt8} {n b : Nat} {m : Md} {σ σ' : fkS} (h : KM t n b m σ) (hl : lenM m) (f : Fr sMJ σ σ') : KM t n b m σ' := h.fr hl f rfl fun c j a b => sMJ_mid (by omega) (by omega)
theorem lGE {x c : Nat} (hx : x < 2 ^ 32) (hc : c ≤ 7000) : 0 ≤ lg_cmp (lN x) (nI c).toInt64 ↔ c ≤ x := by
  rw [nI_l (by omega), lg_cmp_ge, pk_lLE (by omega) (by omega)]
section VARM
variable {t : Nat → UInt8} {n b d f p q : Nat} {m : Md} {C : List In} {J K : JS} {σ σ0 : fkS}
theorem k_calls {ty : Nat} {Q : fkS → Prop} (hl : lenM m) (hf : fcM t n m) (hty : ty < (mdT m).length) (hK : KM t n b m σ) (h : MS t n b C J p σ) (hl4 : (jT J).length ≤ 4000) (h0 : 0 < (jB J).length) (f0 : Fr sMJ σ0 σ) (k : ∀ σ1, Fr sMJ σ0 σ1 → MS t n b C (jCall t m ty J) p σ1 → Q σ1) : Cv (d + 2) 282 [.ref 103, .int (nI (60 * b + ty))] σ Q := by
  have l1 : (mdT m).length ≤ 60 := hl.1
  have hb : b < 2 := hK.1
  have hx := hf.1 _ (List.mem_of_getElem? (tyAt_get hty))
  have hr : rTM t (60 * b + ty) (tyAt m ty) σ := (hK.2.2.1.1.1 ty _ (tyAt_get hty)).2
  refine (m_calls (by omega) hx hr hl4 h0 h.1).mono fun x σ1 hx1 => ?_
  obtain ⟨rfl, f1, h1⟩ := Qv_s hx1
  have e : jCall t m ty J = jPushG (tyAt m ty).2.2 (jArgs t (tyAt m ty) (tyAt m ty).2.1 J) := if_pos hty
  rw [← e] at h1
  exact k σ1 (f0.tr f1.mg) (h.go f1 h1)
theorem k_more16 {B : Nat} (hl : lenM m) (hf : fcM t n m) (hT : vTy m = true) (hK : KM t n b m σ) (hU : nU t n p = .inl (B, q)) (h : MS t n b C J p σ) (hl4 : (jT J).length ≤ 4000) (h0 : 0 < (jB J).length) :
    Cj (d + 2) 246 [.ref 103] σ (fun x26 σ25 => vp_in (σ25.1 103 38) 2 ∧ (((lg_cmp x26 ((σ25.1 110 ((σ25.1 103 38).toNatClampNeg)).toInt64)) < 0 → (vp_in (((60 : Int32) * (σ25.1 103 38)) + x26.toInt32) 120 ∧ Cv (d + 2) 282 [.ref 103, .int (((60 : Int32) * (σ25.1 103 38)) + ((σ25.2.1 117 ((((60 : Int32) * (σ25.1 103 38)) + x26.toInt32).toNatClampNeg)).toInt32))] σ25 (fun σ27 => Qv (fun σ' => MO t n b C (jC16 t m B J) q σ σ') none σ27))) ∧ (¬ (lg_cmp x26 ((σ25.1 110 ((σ25.1 103 38).toNatClampNeg)).toInt64)) < 0 → Qv (fun σ' => MO t n b C (jC16 t m B J) q σ σ') none (sI σ25 103 57 (0 : Int32))))) := by
  have l2 : (mdU m).length ≤ 60 := hl.2.1
  have hb : b < 2 := hK.1
  refine sU h hU Fr.rf fun σ1 f1 h1 => ?_
  have hK1 := hK.fj hl f1
  obtain ⟨-, k38, kM, -, -⟩ := id hK1
  have hUU := kM.2.1
  have hB32 := (nU_l hU).2.1
  show _ ∧ _
  rw [k38, nI_clamp (n := b) (by omega), hUU.2, lN_i32, ex, lE hB32 (by omega)]
  refine ⟨vp_in_nI hb (by decide), fun z => ⟨vp_in_nI (by omega) (by decide), ?_⟩, fun z => ?_⟩
  · have hg : (mdU m)[B]? = some (fnTy m B) := by
      unfold fnTy
      rw [List.getElem?_eq_getElem z]
      rfl
    have hq : σ1.2.1 117 (60 * b + B) = lN (fnTy m B) := hUU.1 B _ hg
    rw [nI_clamp (n := 60 * b + B) (by omega), hq, lN_i32, ex]
    refine k_calls hl hf (vTy_get hT z) hK1 h1 hl4 h0 f1 fun σ2 f2 h2 => ?_
    have e : jC16 t m B J = jCall t m (fnTy m B) J := if_pos z
    show MO t n b C _ q σ σ2
    rw [e]
    exact MO.of f2 h2
  · have e : jC16 t m B J = jBad J := if_neg z
    show MO t n b C _ q σ _
    rw [e]
    exact MO.bad (f1.sI rfl) (h1.1.g false) rfl rfl
theorem jG_args {x : Ty} : ∀ (k : Nat) {J : JS}, jG (jArgs t x k J) = true → jG J = true
  | 0, _, h => h
  | k + 1, _, h => jG_pop (jG_args k h)
theorem jG_call {ty : Nat} (h : jG (jCall t m ty J) = true) : jG J = true ∧ ty < (mdT m).length := by
  unfold jCall at h
  split at h
  next z =>
    rw [jG_pushG] at h
    exact ⟨jG_args _ h, z⟩
  · cases h
theorem jAnd_t : jAnd J true = J := by
  unfold jAnd
  rw [Bool.and_true]
  rfl
theorem k_more17 {B q1 : Nat} (hl : lenM m) (hf : fcM t n m) (hK : KM t n b m σ) (hU : nU t n p = .inl (B, q1)) (hX : rX 0 t n q1 = .inl ((), q)) (h : MS t n b C J p σ) (hl4 : (jT J).length ≤ 4000) (h0 : 0 < (jB J).length) :
    Cj (d + 2) 246 [.ref 103] σ (fun x20 σ19 => Ci (d + 2) 243 [.ref 103] σ19 (fun x22 σ21 => vp_in (σ21.1 103 38) 2 ∧ (((σ21.1 111 ((σ21.1 103 38).toNatClampNeg)) = 0 → Qv (fun σ' => MO t n b C (jC17 t m B J) q σ σ') none (sI σ21 103 57 (0 : Int32))) ∧ (¬ (σ21.1 111 ((σ21.1 103 38).toNatClampNeg)) = 0 → (vp_in (σ21.1 103 38) 2 ∧ (((lg_cmp x20 ((σ21.1 106 ((σ21.1 103 38).toNatClampNeg)).toInt64)) < 0 → (Cv (d + 2) 273 [.ref 103, .int (127 : Int32)] σ21 (fun σ23 => Cv (d + 2) 282 [.ref 103, .int (((60 : Int32) * (σ23.1 103 38)) + x20.toInt32)] σ23 (fun σ24 => Qv (fun σ' => MO t n b C (jC17 t m B J) q σ σ') none σ24)))) ∧ (¬ (lg_cmp x20 ((σ21.1 106 ((σ21.1 103 38).toNatClampNeg)).toInt64)) < 0 → Qv (fun σ' => MO t n b C (jC17 t m B J) q σ σ') none (sI σ21 103 57 (0 : Int32)))))))) ) := by
  have l1 : (mdT m).length ≤ 60 := hl.1
  have l3 : (mdA m).length ≤ 60 := hl.2.2.1
  have hb : b < 2 := hK.1
  obtain ⟨hq, hqn⟩ := rX_q hX
  subst hq
  refine sU h hU Fr.rf fun σ1 f1 h1 => sN h1 hqn f1 fun σ2 f2 h2 => ?_
  have hK1 := hK.fj hl f2
  obtain ⟨-, k38, kM, -, -⟩ := id hK1
  have hB32 := (nU_l hU).2.1
  show _ ∧ _
  have vb : vp_in (nI b) 2 := vp_in_nI hb (by decide)
  rw [k38, nI_clamp (n := b) (by omega), kM.2.2.1.2, kM.1.2, lE hB32 (by omega)]
  refine ⟨vb, pk_eq (mdA m).length 0 (fun z => ?_) fun z => ⟨vb, fun y => ?_, fun y => ?_⟩⟩
  · show MO t n b C _ _ σ _
    refine MO.bad (f2.sI rfl) (h2.1.g false) rfl (bf fun y => ?_)
    have := jG_pop (jG_call y).1
    unfold jAnd at this
    rw [decide_eq_false (by omega), show jG (jT J, jB J, jG J && false) = (jG J && false) from rfl, Bool.and_false] at this
    cases this
  · have e : jC17 t m B J = jCall t m B (jPop 127 J).2 := by
      unfold jC17
      rw [decide_eq_true (by omega : 0 < (mdA m).length), jAnd_t]
    rw [e]
    refine sPop (due := 127) h2 (by decide) (by decide) hl4 h0 f2 fun σ3 f3 h3 => ?_
    have hK3 := hK.fj hl f3
    show Cv (d + 2) 282 _ σ3 _
    rw [hK3.2.1, lN_i32, ex]
    exact k_calls hl hf y hK3 h3 (Nat.le_trans jPop_T hl4) (by rw [jPop_B]; exact h0) f3 fun σ4 f4 h4 => MO.of f4 h4
  · show MO t n b C _ _ σ _
    exact MO.bad (f2.sI rfl) (h2.1.g false) rfl (bf fun w => y (jG_call w).2)
theorem jPop_lt0 (h : jok J) : (jPop 0 J).1 < 200 := jPop_lt h (by decide)
theorem k_more27 (h : MS t n b C J p σ) (hl4 : (jT J).length ≤ 4000) (h0 : 0 < (jB J).length) {Q : fkS → Prop} (hQ : ∀ σ', MO t n b C (jSel J) p σ σ' → Q σ') :
    Cv (d + 2) 273 [.ref 103, .int (127 : Int32)] σ (fun σ4 => Ci (d + 2) 274 [.ref 103] σ4 (fun x6 σ5 => Ci (d + 2) 274 [.ref 103] σ5 (fun x8 σ7 => ((x6 = 0 → ((¬ x6 = 0 → Cv (d + 2) 277 [.ref 103, .int x6] σ7 (fun σ9 => Q σ9)) ∧ (x6 = 0 → Cv (d + 2) 277 [.ref 103, .int x8] σ7 (fun σ10 => Q σ10)))) ∧ (¬ x6 = 0 → ((x8 = 0 → ((¬ x6 = 0 → Cv (d + 2) 277 [.ref 103, .int x6] σ7 (fun σ11 => Q σ11)) ∧ (x6 = 0 → Cv (d + 2) 277 [.ref 103, .int x8] σ7 (fun σ12 => Q σ12)))) ∧ (¬ x8 = 0 → ((x8 = x6 → ((¬ x6 = 0 → Cv (d + 2) 277 [.ref 103, .int x6] σ7 (fun σ13 => Q σ13)) ∧ (x6 = 0 → Cv (d + 2) 277 [.ref 103, .int x8] σ7 (fun σ14 => Q σ14)))) ∧ (¬ x8 = x6 → ((¬ x6 = 0 → Cv (d + 2) 277 [.ref 103, .int x6] (sI σ7 103 57 (0 : Int32)) (fun σ15 => Q σ15)) ∧ (x6 = 0 → Cv (d + 2) 277 [.ref 103, .int x8] (sI σ7 103 57 (0 : Int32)) (fun σ16 => Q σ16)))))))))))) := by
  refine sPop (due := 127) h (by decide) (by decide) hl4 h0 Fr.rf fun σ1 f1 h1 => ?_
  have l1 := Nat.le_trans (jPop_T (due := 127) (J := J)) hl4
  have b1 : 0 < (jB (jPop 127 J).2).length := by rw [jPop_B]; exact h0
  have eS : jSel J = jPush (jPop (jPop 0 (jPop 127 J).2).1 (jPop 0 (jPop 127 J).2).2).1 (jPop (jPop 0 (jPop 127 J).2).1 (jPop 0 (jPop 127 J).2).2).2 := rfl
  rw [eS] at hQ
  generalize (jPop 127 J).2 = J1 at *
  refine sTop h1 l1 b1 f1 fun σ2 f2 h2 => ?_
  have l2 := Nat.le_trans (jPop_T (due := 0) (J := J1)) l1
  have b2 : 0 < (jB (jPop 0 J1).2).length := by rw [jPop_B]; exact b1
  have t2 := jPop_lt0 h1.1.1
  generalize (jPop 0 J1).2 = J2 at *
  generalize (jPop 0 J1).1 = T at *
  refine sTop h2 l2 b2 f2 fun σ3 f3 h3 => ?_
  have l3 := Nat.le_trans (jPop_T (due := 0) (J := J2)) l2
  have s3 := jPop_lt0 h2.1.1
  rw [jPop_0 (due := T)] at hQ
  generalize (jPop 0 J2).2 = J3 at *
  generalize (jPop 0 J2).1 = S at *
  have fin : ∀ X, X < 200 → X = (if S = 0 then T else S) → (decide (S = 0) || decide (T = 0) || decide (S = T)) = true → Cv (d + 2) 277 [.ref 103, .int (nI X)] σ3 (fun σ10 => Q σ10) := fun X hX hXe hg => by
    rw [hg, jAnd_t, ← hXe] at hQ
    exact sPush h3 hX l3 f3 fun σ4 f4 h4 => hQ σ4 (MO.of f4 h4)
  show _ ∧ _
  refine pk_eq T 0 (fun z => ⟨fun w => absurd (by rw [z]; rfl) w, fun _ => fin S s3 ?_ (by simp [z])⟩) fun z => ?_
  · split
    next y => rw [y, z]
    · rfl
  have nT : ¬ nI T = 0 := nI_ne0 (by omega) (by omega)
  refine pk_eq S 0 (fun y => ⟨fun _ => fin T t2 (if_pos y).symm (by simp [y]), fun w => absurd w nT⟩) fun y => pk_eq S T (fun w => ⟨fun _ => fin T t2 (by rw [if_neg y]; exact w.symm) (by simp [w]), fun u => absurd u nT⟩) fun w => ⟨fun _ => ?_, fun u => absurd u nT⟩
  have hg : (decide (S = 0) || decide (T = 0) || decide (S = T)) = false := by simp [y, z, w]
  rw [hg] at hQ
  refine sPush (h3.g false) t2 l3 (f3.sI rfl) fun σ4 f4 h4 => hQ σ4 ?_
  refine MO.bad f4 h4.1 (by rw [jG_push]; rfl) ?_
  rw [jG_push]
  show (jG J3 && false) = false
  rw [Bool.and_false]
end VARM
