/-! THE JUDGE OF A FUNCTION: memory, blocks, branches; the class -/
def jMeK (op al : Nat) (K : JS) : JS := if op = 63 then jPush 127 K else if op = 64 then jPush 127 (jPop 127 K).2 else jMe2 op (jAnd K (decide (al < 4) && decide (2 ^ al ≤ wid op)))
theorem jMem_K {m : Md} {op al : Nat} {J : JS} : jMem m op al J = jMeK op al (jAnd J (decide (0 < (mdM m).length))) := rfl
def jElse (J : JS) : JS := match jTop (jPart J) with
  | none => jPart J
  | some b => (jT (jPart J), jSetD (jPart J) b false, jG (jPart J))
def eBad (C : List In) (J : JS) : Bool := match jTop J with
  | none => false
  | some b => bBad C b
def jEnd (C : List In) (J : JS) : JS := jBlk (eBad C J) J
def jStr (C : List In) (i op bt : Nat) (J : JS) : JS := if op = 0 then jDead J else if op = 1 then J else if op = 4 then jOpen (some i) bt (jPop 127 J).2 else if op = 5 then jElse J else if op = 11 then jEnd C J else jOpen (some i) bt J
def jRet (J : JS) : JS := match (jB J)[0]? with
  | none => J
  | some b => jDead (jPopG (bkG b) J)
theorem jok.els {J : JS} (h : jok J) : jok (jElse J) := by
  unfold jElse
  split
  · exact h.part
  next b hb =>
    obtain ⟨L, hL, hb2⟩ := top_get hb
    obtain ⟨h1, h2, h3, h4, h5⟩ := h.part
    refine ⟨h1, ?_, h3, fun k c hc => ?_, fun i j bi bj hij hi hj => ?_⟩
    · show (jSetD (jPart J) b false).length ≤ 22
      rw [setD_len hb]
      exact h2
    · obtain ⟨c0, a1, a2, a3, a4, -⟩ := setD_get hb hc
      rw [a2, a3, a4]
      exact h4 k c0 a1
    · obtain ⟨c0, a1, a2, a3, a4, -⟩ := setD_get hb hi
      obtain ⟨d0, b1, b2, b3, b4, -⟩ := setD_get hb hj
      rw [a3, b3]
      exact h5 i j c0 d0 hij a1 b1
section STRX
variable {t : Nat → UInt8} {n d f : Nat} {m : Md} {C : List In} {J : JS} {σ : fkS}
theorem w_mem97 {op : Nat} {g0 g : Bool} {σ0 : fkS} (h : rJ (jT J, jB J, g0) σ) (ho : op < 256) (e0 : σ.2.2 = σ0.2.2) (f0 : Fr sJg σ0 σ) : Wq 91 (d + 1) 97 [some (.ref 50), none, some (.int (nI op)), none] [.int (b2i g), .ref 50] σ (Qv fun σ' => σ'.2.2 = σ0.2.2 ∧ PJ (jMe2 op (jT J, jB J, g)) σ0 σ') := by
  have h1 : rJ (jT J, jB J, g) (sI σ 50 3 (b2i g)) := h.g g
  refine S_Judge_memoryUse_97 (bz.mpr (pk_lt op 54 (fun z => ?_) fun z => ?_))
  · refine kPop (due := 127) h1 (by decide) e0 (f0.sI rfl) fun σ1 e1 f1 h1 => ?_
    simp only [sW_eq (e1.trans e0.symm)]
    refine pk_le 54 op (fun y => absurd y (by omega)) fun y => (c_acc ho).mono fun x σ2 hx => ?_
    obtain ⟨v, rfl, e2, hv, hs⟩ := Qi_s hx
    subst hv
    rw [hs]
    refine ⟨rfl, ?_⟩
    simp only [sW_eq (e1.trans e0.symm)]
    refine kPush h1 acc_lt e1 f1 fun σ3 e3 f3 h3 => ?_
    simp only [sW_eq (e3.trans e0.symm)]
    unfold jMe2
    rw [if_pos z]
    exact ⟨e3, f3, h3⟩
  · refine (c_acc ho).mono fun x σ2 hx => ?_
    obtain ⟨v, rfl, e2, hv, hs⟩ := Qi_s hx
    subst hv
    rw [hs]
    refine ⟨rfl, ?_⟩
    have er : (sI σ 50 3 (b2i g)).2.2 = σ.2.2 := rfl
    simp only [sW_eq er]
    refine kPop (due := acc op) h1 acc_lt e0 (f0.sI rfl) fun σ1 e1 f1 h1 => ?_
    simp only [sW_eq (e1.trans e0.symm)]
    refine kPop (due := 127) h1 (by decide) e1 f1 fun σ3 e3 f3 h3 => ?_
    simp only [sW_eq (e3.trans e0.symm)]
    refine pk_le 54 op (fun y => ?_) fun y => absurd y (by omega)
    unfold jMe2
    rw [if_neg (by omega)]
    exact ⟨e3, f3, h3⟩
theorem shl_al {al : Nat} (h : al < 4) : (1 : Int32) <<< ((nI al) &&& 31) = nI (2 ^ al) := by
  have : ∀ a : Fin 4, (1 : Int32) <<< ((nI a.val) &&& 31) = nI (2 ^ a.val) := by decide +kernel
  exact this ⟨al, h⟩
theorem w_mem23 {op i al : Nat} {g : Bool} (h : rJ J σ) (hX : KX t n m σ) (ho : op < 256) (hi : i < 4000) (h43 : ¬ op = 63 → ¬ op = 64 → σ.1 43 i = nI al ∧ al ≤ 99) : Wq 91 (d + 1) 23 [some (.ref 50), some (.int (nI i)), some (.int (nI op)), none] [.int (b2i g), .ref 50] σ (Qv fun σ' => σ'.2.2 = σ.2.2 ∧ PJ (jMeK op al (jT J, jB J, g)) σ σ') := by
  have h1 : rJ (jT J, jB J, g) (sI σ 50 3 (b2i g)) := h.g g
  have er : (sI σ 50 3 (b2i g)).2.2 = σ.2.2 := rfl
  refine S_Judge_memoryUse_23 hX.2.2.2.2.2.2.2.2.2 (bz.mpr (And.comm.mp (pk_eq op 63 (fun z => ?_) fun z => And.comm.mp (pk_eq op 64 (fun y => ?_) fun y => ⟨by decide, vp_in_nI hi (by decide), ?_⟩))))
  · refine kPush h1 (by decide : 127 < 200) er (Fr.rf.sI rfl) fun σ3 e3 f3 h3 => ?_
    simp only [sW_eq e3]
    unfold jMeK
    rw [if_pos z]
    exact ⟨e3, f3, h3⟩
  · refine kPop (due := 127) h1 (by decide) er (Fr.rf.sI rfl) fun σ1 e1 f1 h1 => ?_
    simp only [sW_eq e1]
    refine kPush h1 (by decide : 127 < 200) e1 f1 fun σ3 e3 f3 h3 => ?_
    simp only [sW_eq e3]
    unfold jMeK
    rw [if_neg z, if_pos y]
    exact ⟨e3, f3, h3⟩
  · obtain ⟨q1, q2⟩ := h43 z y
    have ej : jMeK op al (jT J, jB J, g) = jMe2 op (jT J, jB J, g && (decide (al < 4) && decide (2 ^ al ≤ wid op))) := by
      unfold jMeK
      rw [if_neg z, if_neg y]
      rfl
    rw [nI_clamp (n := i) (by omega), q1, ej]
    have go : ∀ g2, g2 = (g && (decide (al < 4) && decide (2 ^ al ≤ wid op))) → Wq 91 (d + 1) 97 [some (.ref 50), none, some (.int (nI op)), none] [.int (b2i g2), .ref 50] (sI σ 50 3 (b2i g)) (Qv fun σ' => σ'.2.2 = σ.2.2 ∧ PJ (jMe2 op (jT J, jB J, g && (decide (al < 4) && decide (2 ^ al ≤ wid op)))) σ σ') := fun g2 hg => by
      rw [← hg]
      exact w_mem97 h1 ho er (Fr.rf.sI rfl)
    refine ⟨fun w => go false (by rw [b2i_0.mp w]; rfl), fun w => pk_le 4 al (fun s => go false (by rw [decide_eq_false (show ¬ al < 4 by omega), Bool.false_and, Bool.and_false])) fun s => ?_⟩
    refine (c_wid ho).mono fun x σ2 hx => ?_
    obtain ⟨v, rfl, e2, hv, hs⟩ := Qi_s hx
    subst hv
    rw [hs]
    refine ⟨rfl, ?_⟩
    simp only [sW_eq er]
    rw [shl_al s]
    have hw : wid op ≤ 8 := by
      unfold wid
      repeat' split
      all_goals decide
    have h2 : 2 ^ al ≤ 8 := by
      have : ∀ a : Fin 4, 2 ^ a.val ≤ 8 := by decide
      exact this ⟨al, s⟩
    refine pk_lt (wid op) (2 ^ al) (fun r => go false (by rw [decide_eq_false (show ¬ 2 ^ al ≤ wid op by omega), Bool.and_false, Bool.and_false])) fun r => go true (by rw [b2t w, decide_eq_true s, decide_eq_true r]; rfl)
theorem c_mem {op i al : Nat} (hl : lenM m) (h : rJ J σ) (hX : KX t n m σ) (ho : op < 256) (hi : i < 4000) (h43 : ¬ op = 63 → ¬ op = 64 → σ.1 43 i = nI al ∧ al ≤ 99) : Dv (d + 1) 91 [.ref 50, .int (nI i), .int (nI op)] σ (fun σ' => PJ (jMem m op al J) σ σ') := by
  have l4 : (mdM m).length ≤ 60 := hl.2.2.2.1
  have h3 : σ.1 50 3 = b2i (jG J) := h.2.2.2.2.2
  have go : ∀ g, g = (jG J && decide (0 < (mdM m).length)) → Wq 91 (d + 1) 23 [some (.ref 50), some (.int (nI i)), some (.int (nI op)), none] [.int (b2i g), .ref 50] σ (Qv fun σ' => σ'.2.2 = σ.2.2 ∧ PJ (jMem m op al J) σ σ') := fun g hg => by
    rw [jMem_K]
    unfold jAnd
    rw [← hg]
    exact w_mem23 h hX ho hi h43
  refine S_Judge_memoryUse hX.2.2.2.2.2.2.2.2.1 ?_
  rw [h3, hX.2.2.2.1]
  refine ⟨fun w => go false (by rw [b2i_0.mp w]; rfl), fun w => ⟨by decide, fun s => go false ?_, fun s => go true ?_⟩⟩
  · have : (mdM m).length = 0 := Nat.eq_zero_of_not_pos fun q => nI_nle q (by omega) s
    rw [this]
    exact (Bool.and_false _).symm
  · have : 0 < (mdM m).length := Nat.pos_of_ne_zero fun q => s (by rw [q]; decide)
    rw [b2t w, decide_eq_true this]
    rfl
theorem c_str {op i bt : Nat} (hX : KX t n m σ) (h : rJ J σ) (hc : cx (mdC m).2 J) (hi : i < 4000) (h42 : (σ.2.1 42 i).toInt32 = nI bt) (hbt : 2 ≤ op ∧ op ≤ 4 → bt < 200) (ho : op = 0 ∨ op = 1 ∨ op = 2 ∨ op = 3 ∨ op = 4 ∨ op = 5 ∨ op = 11) : Dv (d + 3) 71 [.ref 50, .int (nI i), .int (nI op)] σ (fun σ' => PJ (jStr (mdC m).2 i op bt J) σ σ') := by
  have hD := hX.2.2.2.2.2.2.1
  have h50 := hX.2.2.2.2.2.2.2.2.2
  have hin : (nI op).toInt = (op : Int) := nI_toInt (by omega)
  have vi : vp_in (nI i) 4000 := vp_in_nI hi (by decide)
  have hop : bt < 200 → Dv (d + 2) 69 [.ref 50, .int (nI i), .int (nI bt)] σ (fun σ1 => Qv (fun σ' => σ'.2.2 = σ.2.2 ∧ PJ (jOpen (some i) bt J) σ σ') none (sW σ1 σ)) := fun hb => by
    refine (c_jopen (o := some i) h hb (fun k hk => by cases hk; exact hi)).mono fun x σ1 hx => ?_
    obtain ⟨rfl, e1, hp⟩ := Qv_s hx
    refine ⟨e1, ?_⟩
    simp only [sW_eq e1]
    exact ⟨e1, hp⟩
  refine S_Judge_structure h50 ?_
  rw [hin, nI_clamp (n := i) (by omega), h42]
  refine ⟨fun z => absurd z (by omega), fun z => ?_, fun z => ?_, fun z => ?_, fun z => ?_, fun z => ?_, fun z => ?_, fun z => absurd z (by omega), fun z => absurd z (by omega), fun z => absurd z (by omega), fun z => absurd z (by omega), fun z => absurd z (by omega), fun z => ?_, trivial⟩
  · have z : op = 0 := by omega
    subst z
    refine (c_jdead h).mono fun x σ1 hx => ?_
    obtain ⟨rfl, e1, hp⟩ := Qv_s hx
    refine ⟨e1, ?_⟩
    simp only [sW_eq e1]
    exact ⟨e1, hp⟩
  · have z : op = 1 := by omega
    subst z
    exact ⟨rfl, PJ.rf h⟩
  · have z : op = 2 := by omega
    subst z
    exact ⟨by decide, vi, hop (hbt (by omega))⟩
  · have z : op = 3 := by omega
    subst z
    exact ⟨by decide, vi, hop (hbt (by omega))⟩
  · have z : op = 4 := by omega
    subst z
    refine kPop (due := 127) h (by decide) rfl Fr.rf fun σ1 e1 f1 h1 => ?_
    simp only [sW_eq e1]
    rw [show σ1.2.1 42 i = σ.2.1 42 i from (f1 42 i rfl).2.1, h42]
    refine ⟨by decide, vi, (c_jopen (o := some i) h1 (hbt (by omega)) (fun k hk => by cases hk; exact hi)).mono fun x σ2 hx => ?_⟩
    obtain ⟨rfl, e2, hp⟩ := Qv_s hx
    refine ⟨e2, ?_⟩
    simp only [sW_eq (e2.trans e1)]
    exact ⟨e2.trans e1, f1.tr hp.1, hp.2⟩
  · have z : op = 5 := by omega
    subst z
    refine (c_jpart (d := d + 1) h).mono fun x σ1 hx => ?_
    obtain ⟨rfl, e1, hp⟩ := Qv_s hx
    refine ⟨e1, ?_⟩
    simp only [sW_eq e1]
    obtain ⟨hp1, hp2⟩ := hp
    have hB : (jB (jPart J)).length ≤ 22 := hp2.1.2.1
    have h10 : σ1.1 50 10 = nI (jB (jPart J)).length := hp2.2.2.2.1
    show _ ∧ _
    rw [h10]
    have eS : jStr (mdC m).2 i 5 bt J = jElse J := rfl
    rw [eS]
    cases ht : jTop (jPart J) with
    | none =>
      have h0 := top_none ht
      have e : jElse J = jPart J := by unfold jElse; rw [ht]
      rw [h0, e]
      exact ⟨fun _ => ⟨e1, hp1, hp2⟩, fun y => absurd (by decide) y⟩
    | some b =>
      obtain ⟨L, hL, hb2⟩ := top_get ht
      have e : jElse J = (jT (jPart J), jSetD (jPart J) b false, jG (jPart J)) := by unfold jElse; rw [ht]
      have hok := h.1.els
      rw [e] at hok ⊢
      rw [hL, nI_pred, nI_clamp (n := L) (by omega)]
      refine ⟨fun y => absurd y (nI_nle (by omega) (by omega)), fun _ => ⟨vp_in_nI (by omega) (by decide), e1, hp1.sI rfl, hok, ?_⟩⟩
      obtain ⟨a1, a2, a3, a4, a5⟩ := hp2.2
      refine ⟨a1, a2, ?_, fun k c hc => ?_, a5⟩
      · show σ1.1 50 10 = nI (jSetD (jPart J) b false).length
        rw [setD_len ht]
        exact a3
      · obtain ⟨c0, g1, g2, g3, g4, g5, g6⟩ := setD_get ht hc
        obtain ⟨d1, d2, d3, d4⟩ := a4 k c0 g1
        refine ⟨by rw [g2]; exact d1, by rw [g3]; exact d2, by rw [g4]; exact d3, ?_⟩
        show (sI σ1 55 L (0 : Int32)).1 55 k = b2i (bkD c)
        rw [sI3]
        by_cases hk : k = L
        · rw [if_pos hk, (g5 (by omega)).1]
          rfl
        · rw [if_neg hk, g6 (by omega)]
          exact d4
  · have z : op = 11 := by omega
    subst z
    have eS : jStr (mdC m).2 i 11 bt J = jEnd (mdC m).2 J := rfl
    rw [eS]
    unfold jEnd
    refine (c_jblk (d := d) (bad := eBad (mdC m).2 J) h h50 (fun b hb ho => ?_) fun b o hb ho => ?_).mono fun x σ1 hx => ?_
    · unfold eBad
      rw [hb]
      show bBad _ b = false
      unfold bBad
      rw [ho]
    · have eb : eBad (mdC m).2 J = bBad (mdC m).2 b := by unfold eBad; rw [hb]
      rw [eb]
      obtain ⟨L, hL, hb2⟩ := top_get hb
      obtain ⟨I, hI, hI2⟩ := hc L b o hb2 ho
      have hcl := clo_open hD.2.2.2 hI hI2
      obtain ⟨q1, q2, -⟩ := nx_get hcl
      have hC4 := hD.1
      obtain ⟨p1, p2⟩ := hD.op (get_lt hI)
      obtain ⟨r1, r2⟩ := hD.op q1
      unfold bBad
      rw [ho]
      refine ⟨opC (mdC m).2 o, p2, p1, fun v4 => ⟨nx (mdC m).2 o, opC (mdC m).2 (nx (mdC m).2 o), by omega, r2, hD.sec hcl, r1, ?_⟩, fun v4 => ?_⟩
      · show (decide _ && decide _) = true ↔ _
        rw [decide_eq_true v4, Bool.true_and, decide_eq_true_eq]
      · show (decide _ && decide _) = false
        rw [decide_eq_false v4]
        rfl
    · obtain ⟨rfl, e1, hp⟩ := Qv_s hx
      refine ⟨e1, ?_⟩
      simp only [sW_eq e1]
      exact ⟨e1, hp⟩
end STRX
