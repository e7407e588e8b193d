/-! MEMORY of a run, the reference -/
theorem by8_R (x : Int64) {k : Nat} (hk : k < 8) : (fk_lshr x (nI (8 * k))).toInt32 &&& (255 : Int32) = bI (by8 x k) := by
  rw [← by8_X x hk]
  apply u4_inj
  have e255 : u4 (255 : Int32) = 2 ^ 8 - 1 := rfl
  rw [u4_and, u4_and, e255, Nat.and_two_pow_sub_one_eq_mod, Nat.and_two_pow_sub_one_eq_mod, u4_of8, u4_of8, Nat.mod_mod_of_dvd _ (by decide), Nat.mod_mod_of_dvd _ (by decide)]
  have e1 : u8 (fk_lshr x (nI (8 * k))) = (x.toBitVec.sshiftRight (8 * k)).toNat := congrArg BitVec.toNat (fk_lshr_nat (by omega))
  have e2 : u8 (fk_lushr x (nI (8 * k))) = (x.toBitVec >>> (8 * k)).toNat := congrArg BitVec.toNat (lush_n _ (by omega))
  rw [e1, e2]
  have e3 : (x.toBitVec.sshiftRight (8 * k)).setWidth 8 = (x.toBitVec >>> (8 * k)).setWidth 8 := by
    apply BitVec.eq_of_getLsbD_eq
    intro i hi
    rw [BitVec.getLsbD_setWidth, BitVec.getLsbD_setWidth, BitVec.getLsbD_sshiftRight, BitVec.getLsbD_ushiftRight]
    rw [decide_eq_false (show ¬ 64 ≤ i by omega), if_pos (show 8 * k + i < 64 by omega)]
    rfl
  have e4 := congrArg BitVec.toNat e3
  rw [BitVec.toNat_setWidth, BitVec.toNat_setWidth] at e4
  exact e4
def s148 (c j : Nat) : Bool := Nat.beq c 148
section DATM2
variable {t : Nat → UInt8} {n b N d f i k p q tk op fr w : Nat} {m : Md} {σ σ' : fkS} {L L2 S S2 A : List Int64} {e e2 : Env} {fs : List Fm} {v x : Int64} {mm : Nat → UInt8} {I : In} {Q : fkS → Prop}
theorem w_st119 {σ0 : fkS} (hw : w ≤ 8) (hfr : fr + w ≤ 131072) (hQ : ∀ σ', Fr s148 σ0 σ' → (∀ k, k < 131072 → σ'.1 148 k = bI (stM mm fr w v k)) → Q σ') :
    ∀ (k r : Nat) (σ : fkS), r + k = w → Fr s148 σ0 σ → (∀ k, k < 131072 → σ.1 148 k = bI (stM mm fr r v k)) → Wq 311 (d + 1) 119 [some (.ref 103), none, none, none, none, none, some (.long v), none, some (.long (lN fr)), none, some (.int (nI w)), some (.int (nI r)), none, none] [] σ (Qv Q)
  | 0, r, σ, hr, f0, hM => by
    have hr : r = w := by omega
    subst hr
    exact S_M_memoryOn_119 (pk_le r r (fun _ => hQ σ f0 hM) fun z => absurd z (by omega))
  | k + 1, r, σ, hr, f0, hM => by
    refine S_M_memoryOn_119 (pk_le w r (fun z => absurd z (by omega)) fun _ => ?_)
    have e8 : (fk_lshr v ((8 : Int32) * nI r)).toInt32 &&& (255 : Int32) = bI (by8 v r) := by
      rw [show (8 : Int32) = nI 8 from rfl, nI_mul]
      exact by8_R v (by omega)
    rw [e8, lN_i, nI_add, nI_clamp (n := fr + r) (by omega), nI_1]
    refine ⟨vp_in_nI (by omega) (by decide), ?_⟩
    refine w_st119 hw hfr hQ k (r + 1) _ (by omega) (f0.sI rfl) fun j hj => ?_
    rw [sI3, ← stM_s]
    by_cases z : j = fr + r
    · rw [if_pos z, if_pos z]
    · rw [if_neg z, if_neg z]
      exact hM j hj
theorem w_ld166 {k0 : Nat} (hop : 40 ≤ op ∧ op ≤ 53) (hw : w ≤ 8) (hfr : fr + w ≤ 131072) (hM : ∀ k, k < 131072 → σ.1 148 k = bI (mm k)) (hA : oM σ A) (hl : A.length < 30000) (hQ : ∀ σ', Fr sOm σ σ' → oM σ' ((if ldSg op = true then fk_lshr (fk_lshl (ldA mm fr w w) (nI (64 - 8 * w))) (nI (64 - 8 * w)) else ldA mm fr w w) :: A) → Q σ') :
    ∀ (k r : Nat), r + k = w → Wq 311 (d + 2) 166 [some (.ref 103), some (.int (nI op)), none, none, none, none, none, none, some (.long (lN fr)), none, some (.int (nI w)), some (.long (ldA mm fr w r)), none, some (.int (nI k - 1))] [] σ (Qv Q)
  | 0, r, hr => by
    have hr : r = w := by omega
    subst hr
    have e0 : (nI 0 - 1 : Int32) < 0 := by decide
    have e64 : (64 : Int32) - (8 : Int32) * nI r = nI (64 - 8 * r) := by
      rw [show (8 : Int32) = nI 8 from rfl, nI_mul, show (64 : Int32) = nI 64 from rfl, nI_sub (by omega)]
    have sg : ∀ {s0 : Int32}, s0 = b2i (ldSg op) → Wq 311 (d + 2) 238 [some (.ref 103), none, none, none, none, none, none, none, none, none, some (.int (nI r)), some (.long (ldA mm fr r r)), none, none] [.int s0] σ (Qv Q) := fun hs => by
      rw [hs]
      refine S_M_memoryOn_238 ⟨fun z => ?_, fun z => ?_⟩
      · have z := b2i_0.mp z
        rw [z] at hQ
        exact m_pushes hA hl hQ
      · have z : ldSg op = true := by
          cases hh : ldSg op
          · rw [hh] at z
            exact absurd rfl z
          · rfl
        rw [z] at hQ
        rw [e64]
        exact m_pushes hA hl hQ
    have yes : ∀ {c : Nat}, (c = 40 ∨ c = 44 ∨ c = 46 ∨ c = 48 ∨ c = 50 ∨ c = 52) → op = c → (1 : Int32) = b2i (ldSg op) := fun h e => by
      subst e
      rcases h with h | h | h | h | h | h <;> (rw [h]; rfl)
    have en : ∀ {c : Nat}, c < 100 → (nI op = nI c ↔ op = c) := fun hc => nI_eq (by omega) (by omega)
    refine S_M_memoryOn_166 ⟨fun _ => ⟨fun y => sg (yes (c := 40) (by omega) ((en (c := 40) (by decide)).mp y)), fun y0 => ⟨fun y => sg (yes (c := 44) (by omega) ((en (c := 44) (by decide)).mp y)), fun y1 => ⟨fun y => sg (yes (c := 46) (by omega) ((en (c := 46) (by decide)).mp y)), fun y2 => ⟨fun y => sg (yes (c := 48) (by omega) ((en (c := 48) (by decide)).mp y)), fun y3 => ⟨fun y => sg (yes (c := 50) (by omega) ((en (c := 50) (by decide)).mp y)), fun y4 => ⟨fun y5 => sg ?_, fun y => sg (yes (c := 52) (by omega) ((en (c := 52) (by decide)).mp y))⟩⟩⟩⟩⟩⟩, fun z => absurd e0 z⟩
    have n0 : op ≠ 40 := fun u => y0 (by rw [u]; rfl)
    have n1 : op ≠ 44 := fun u => y1 (by rw [u]; rfl)
    have n2 : op ≠ 46 := fun u => y2 (by rw [u]; rfl)
    have n3 : op ≠ 48 := fun u => y3 (by rw [u]; rfl)
    have n4 : op ≠ 50 := fun u => y4 (by rw [u]; rfl)
    have n5 : op ≠ 52 := fun u => y5 (by rw [u]; rfl)
    have : ldSg op = false := by
      unfold ldSg
      rw [Bool.or_eq_false_iff, Bool.and_eq_false_iff, decide_eq_false_iff_not, decide_eq_false_iff_not, decide_eq_false_iff_not]
      omega
    rw [this]
    rfl
  | k + 1, r, hr => by
    have em : nI k + (-1 : Int32) = nI k - 1 := (Int32.sub_eq_add_neg ..).symm
    refine S_M_memoryOn_166 ⟨fun z => absurd z (by rw [nI_pred]; exact nI_pos (by omega)), fun _ => ?_⟩
    rw [nI_pred, lN_i, nI_add, nI_clamp (n := fr + k) (by omega), hM (fr + k) (by omega), em]
    refine ⟨vp_in_nI (by omega) (by decide), ?_⟩
    have e : (fk_lshl (ldA mm fr w r) (8 : Int32)) ||| (bI (mm (fr + k))).toInt64 = ldA mm fr w (r + 1) := by
      rw [ldA, show w - 1 - r = k by omega]
    rw [e]
    exact w_ld166 (k0 := k0) hop hw hfr hM hA hl hQ k (r + 1) (by omega)
theorem m_grow (hS : SM t n b N m σ) (hM1 : (mdM m).length = 1) (hp : eP e ≤ 2) (h62 : σ.1 103 62 = nI (eP e)) (hB : oM σ (v :: A)) (hQ : ∀ σ', Fr (fun c j => sOm c j || (Nat.beq c 103 && Nat.beq j 62)) σ σ' → (eP e + lo32 v ≤ mxP m → σ'.1 103 62 = nI (eP e + lo32 v) ∧ oM σ' (lN (eP e) :: A)) → (¬ eP e + lo32 v ≤ mxP m → σ'.1 103 62 = nI (eP e) ∧ oM σ' (-1 :: A)) → Q σ') : Cv (d + 1) 312 [.ref 103] σ Q := by
  have hl : A.length < 30000 := hB.2.1
  have hmx := hS.1.mx.2.1
  have hlo : lo32 v < 2 ^ 32 := Nat.mod_lt _ (by decide)
  have hb := hS.2.1
  have h37 := hS.2.2.1
  have hlim : σ.2.1 121 b = lM (liLast (mdM m)).2 := (hS.2.2.2.2.2.2.1.2.2.2.1.1 0 _ (li_first hM1) rfl).2
  have cut : ∀ {σ1 : fkS} {s0 : Int64}, s0 = lN (mxP m) → Fr sOm σ σ1 → oM σ1 A → Wq 312 (d + 1) 38 [some (.ref 103), some (.long (lN (lo32 v))), none, none, none] [.long s0] σ1 (Qv Q) := fun {σ1 s0} hs f1 o1 => by
    have k4 : σ1.1 103 62 = nI (eP e) := (f1 _ _ rfl).1.trans h62
    have mo : ∀ {σ2 : fkS}, Fr sOm σ σ2 → Fr (fun c j => sOm c j || (Nat.beq c 103 && Nat.beq j 62)) σ σ2 := fun f => f.mono fun c j h => by
      show (sOm c j || _) = true
      rw [h]
      rfl
    refine S_M_grows_38 ?_
    rw [hs, k4, nI_l (by omega), lg_cmp_le, lN_add, pk_lLE (by omega) (by omega)]
    refine ⟨fun z => m_pushes o1 hl fun σ2 f2 o2 => ?_, fun z => m_pushes o1 hl fun σ2 f2 o2 => ?_⟩
    · have k2 : σ2.1 103 62 = nI (eP e) := ((f1.tr f2) _ _ rfl).1.trans h62
      rw [k2, lN_i, nI_add]
      exact hQ _ ((mo (f1.tr f2)).sI rfl) (fun _ => ⟨sI_ss, o2.fr (S := fun c k => Nat.beq c 103 && Nat.beq k 62) (Fr.rf.sI rfl) rfl fun _ => rfl⟩) fun y => absurd z y
    · exact hQ _ (mo (f1.tr f2)) (fun y => absurd y z) fun _ => ⟨((f1.tr f2) _ _ rfl).1.trans h62, o2⟩
  refine S_M_grows (m_pops hB fun σ1 f1 o1 => ?_)
  have k37 : σ1.1 103 37 = nI b := (f1 _ _ rfl).1.trans h37
  have k8 : σ1.2.1 121 b = lM (liLast (mdM m)).2 := (f1 _ _ rfl).2.1.trans hlim
  rw [k37, nI_clamp (n := b) (by omega), k8, and32]
  refine ⟨vp_in_nI (by omega) (by decide), ?_⟩
  unfold mxP at *
  cases hbb : (liLast (mdM m)).2 with
  | none =>
    rw [hbb] at cut
    exact ⟨fun z => absurd z (by decide), fun _ => cut rfl f1 o1⟩
  | some c =>
    rw [hbb] at cut hmx
    have hmx : c ≤ 2 := hmx
    refine ⟨fun _ => ⟨vp_in_nI (by omega) (by decide), cut rfl f1 o1⟩, fun z => absurd ?_ z⟩
    show 0 ≤ lg_cmp (lN c) (lN 0)
    rw [lg_ge, pk_lLE (by omega) (by omega)]
    omega
end DATM2
