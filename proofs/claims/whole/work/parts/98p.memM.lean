/-! THE JUDGE OF A FUNCTION: locals, globals, memory; the reference -/
section MEMM
variable {t : Nat → UInt8} {n b d f p q : Nat} {m : Md} {C : List In} {J K : JS} {σ σ0 : fkS}
theorem fiAt_get (h : f < (mdC m).1.length) : (mdC m).1[f]? = some (fiAt m f) := by
  unfold fiAt
  rw [List.getElem?_eq_getElem h]
  rfl
theorem loTy_T {B : Nat} (hf : fcM t n m) (hF : FX m f) (hB : B < loN m f) : isT (loTy t m f B) := by
  have hx := hf.1 _ (List.mem_of_getElem? (tyAt_get hF.2.1))
  have hfl : f < (mdC m).1.length := by have := hF.1; have := hF.2.2.1; omega
  have hfc := hF.2.2.2 _ (List.mem_of_getElem? (fiAt_get hfl))
  unfold loTy
  split
  next z => exact hx.2.1 B z
  next z =>
    have e : ((mdC m).1[f]?).getD ([], 0, 0, 0) = fiAt m f := rfl
    unfold loN at hB
    rw [e] at hB ⊢
    have hj : B - (tyAt m (fnTy m f)).2.1 < (fiAt m f).1.length := by omega
    rw [List.getElem?_eq_getElem hj]
    exact hfc.2 _ (List.getElem_mem hj)
theorem m_locTy {B : Nat} (hl : lenM m) (hf : fcM t n m) (hK : KM t n b m σ) (hF : FX m f) (h55 : σ.1 103 55 = nI f) (h56 : σ.1 103 56 = nI (60 * b + fnTy m f)) (hB : B < 2 ^ 32) : Ci d 284 [.ref 103, .long (lN B)] σ (fun r σ' => (B < loN m f ∧ r = nI (loTy t m f B) ∧ σ' = σ) ∨ (¬ B < loN m f ∧ r = 0 ∧ σ' = sI σ 103 57 (0 : Int32))) := by
  have l1 : (mdT m).length ≤ 60 := hl.1
  have l8 : (mdC m).1.length ≤ 60 := hl.2.2.2.2.2.2.2
  have hb : b < 2 := hK.1
  have hty := hF.2.1
  have hfl : f < (mdC m).1.length := by have := hF.1; have := hF.2.2.1; omega
  have hx := hf.1 _ (List.mem_of_getElem? (tyAt_get hty))
  have hr : rTM t (60 * b + fnTy m f) (tyAt m (fnTy m f)) σ := (hK.2.2.1.1.1 _ _ (tyAt_get hty)).2
  obtain ⟨c0, c1, c2, c3⟩ := hK.2.2.1.2.2.2.2.2.2.2.1 f _ (fiAt_get hfl)
  have hP : (tyAt m (fnTy m f)).2.1 ≤ 60 := hx.1
  have eL : loN m f = (tyAt m (fnTy m f)).2.1 + (fiAt m f).1.length := rfl
  have eT : loTy t m f B = if B < (tyAt m (fnTy m f)).2.1 then (t ((tyAt m (fnTy m f)).1 + B)).toNat else ((fiAt m f).1[B - (tyAt m (fnTy m f)).2.1]?).getD 0 := rfl
  generalize hPP : (tyAt m (fnTy m f)).2.1 = P at *
  have vX : vp_in (nI (60 * b + fnTy m f)) 120 := vp_in_nI (by omega) (by decide)
  have cX : (nI (60 * b + fnTy m f)).toNatClampNeg = 60 * b + fnTy m f := nI_clamp (by omega)
  have r1 : σ.1 107 (60 * b + fnTy m f) = nI P := hr.1.trans (congrArg nI hPP)
  refine S_M_localType ?_
  rw [h55, h56, hK.2.1, cX, r1, ex, nI_clamp (n := 60 * b + f) (by omega), c1, lGE hB (by omega)]
  refine ⟨vX, fun z => ⟨vX, vp_in_nI (by omega) (by decide), ?_⟩, fun z => ?_⟩
  · have e1 : lN B - (nI P).toInt64 = lN (B - P) := by rw [nI_l (by omega), lN_sub z]
    rw [e1, lGE (by omega) (by omega)]
    refine ⟨fun y => .inr ⟨by omega, rfl, rfl⟩, fun y => ⟨vX, ?_⟩⟩
    have hj : B - P < (fiAt m f).1.length := by omega
    have e2 : (50 : Int32) * nI (60 * b + f) + (lN B).toInt32 - nI P = nI (50 * (60 * b + f) + (B - P)) := by
      rw [lN_i32, show (50 : Int32) = nI 50 from rfl, nI_mul, nI_add, nI_sub (by omega)]
      congr 1
      omega
    rw [e2, nI_clamp (n := 50 * (60 * b + f) + (B - P)) (by omega)]
    refine ⟨vp_in_nI (by omega) (by decide), .inl ⟨by omega, ?_, rfl⟩⟩
    rw [eT, if_neg (by omega), List.getElem?_eq_getElem hj]
    exact c2 (B - P) _ (List.getElem?_eq_getElem hj)
  · have hz : B < P := by omega
    have e2 : (60 : Int32) * nI (60 * b + fnTy m f) + (lN B).toInt32 = nI (60 * (60 * b + fnTy m f) + B) := by rw [lN_i32, ex]
    rw [e2, nI_clamp (n := 60 * (60 * b + fnTy m f) + B) (by omega)]
    refine ⟨vp_in_nI (by omega) (by decide), .inl ⟨by omega, ?_, rfl⟩⟩
    rw [eT, if_pos hz]
    exact hr.2.1 B (by rw [hPP]; exact hz)
theorem rSetM_set {op ty : Nat} (ho : op = 32 ∨ op = 33 ∨ op = 34) (ht : ¬ ty = 0) : rSetM op ty J = jSet op ty J := by
  have e : jPopG ty J = (jPop ty J).2 := if_neg ht
  unfold rSetM jSet
  rw [e]
  rcases ho with z | z | z
  · rw [if_neg (by omega), if_neg (by omega), if_pos z]
  · rw [if_pos (by omega), if_neg (by omega), if_pos z]
  · rw [if_neg (by omega), if_pos z, if_neg (by omega), if_neg (by omega)]
theorem rSetM_0 {op : Nat} (hg : jG J = false) : jG (rSetM op 0 J) = false := by
  have e : jPopG 0 J = J := if_pos rfl
  unfold rSetM
  rw [e]
  split
  · exact hg
  split
  · rw [jG_push]; exact hg
  · rw [jG_push]; exact hg
theorem m_vars {op B : Nat} (hl : lenM m) (hf : fcM t n m) (hK : KM t n b m σ) (hF : FX m f) (h55 : σ.1 103 55 = nI f) (h56 : σ.1 103 56 = nI (60 * b + fnTy m f)) (ho : 32 ≤ op ∧ op ≤ 36) (hB : B < 2 ^ 32) (h : MS t n b C J p σ) (hl4 : (jT J).length ≤ 4000) (h0 : 0 < (jB J).length) (f0 : Fr sMJ σ0 σ) : Cv (d + 3) 283 [.ref 103, .int (nI op), .long (lN B)] σ (fun σ' => MO t n b C (if op ≤ 34 then jLoc t m f op B J else jGlo m op B J) p σ0 σ') := by
  have l5 : (mdG m).length ≤ 60 := hl.2.2.2.2.1
  have hb : b < 2 := hK.1
  have k38 := hK.2.1
  have hG := hK.2.2.1.2.2.2.2.1
  have vb : vp_in (nI b) 2 := vp_in_nI hb (by decide)
  have loc : op ≤ 34 → Wq 283 (d + 3) 51 [some (.ref 103), some (.int (nI op)), some (.long (lN B)), none, none] [] σ (Qv fun σ' => MO t n b C (if op ≤ 34 then jLoc t m f op B J else jGlo m op B J) p σ0 σ') := fun z => by
    rw [if_pos z]
    refine S_M_variables_51 (pk_le op 34 (fun _ => ?_) fun y => absurd z (by omega))
    refine (m_locTy hl hf hK hF h55 h56 hB).mono fun x σ1 hx => ?_
    obtain ⟨r, rfl, hr⟩ := Qi_s hx
    show Wq 283 (d + 3) 80 _ _ σ1 _
    rcases hr with ⟨y, rfl, rfl⟩ | ⟨y, rfl, rfl⟩
    · have ht := loTy_T hf hF y
      refine (w_var80 (d := d + 1) ho ht.lt h.1 hl4 h0).mono fun x σ2 hx2 => ?_
      obtain ⟨rfl, f2, h2⟩ := Qv_s hx2
      have e : jLoc t m f op B J = rSetM op (loTy t m f B) J := by
        unfold jLoc
        rw [if_pos y]
        exact (rSetM_set (by omega) (by rcases ht with w | w <;> omega)).symm
      rw [e]
      exact MO.of (f0.tr f2.mg) (h.go f2 h2)
    · have hbad := h.g false
      refine (w_var80 (d := d + 1) (ty := 0) ho (by decide) hbad.1 hl4 h0).mono fun x σ2 hx2 => ?_
      obtain ⟨rfl, f2, h2⟩ := Qv_s hx2
      have e : jLoc t m f op B J = jBad J := if_neg y
      rw [e]
      exact MO.bad ((f0.sI rfl).tr f2.mg) h2 (rSetM_0 rfl) rfl
  refine S_M_variables (pk_le op 34 loc fun z => ?_)
  have hx32 := hB
  rw [k38, nI_clamp (n := b) (by omega), hG.2, lGE hB (by omega), lN_i32, ex]
  have eI : (if op ≤ 34 then jLoc t m f op B J else jGlo m op B J) = jGlo m op B J := if_neg (by omega)
  have eI' : Qv (fun σ' => MO t n b C (if op ≤ 34 then jLoc t m f op B J else jGlo m op B J) p σ0 σ') = Qv (fun σ' => MO t n b C (jGlo m op B J) p σ0 σ') := by rw [eI]
  rw [eI']
  refine ⟨vb, fun y => ?_, fun y => ?_⟩
  · have e : jGlo m op B J = jBad J := if_neg (by omega)
    rw [e]
    exact MO.bad (f0.sI rfl) (h.1.g false) rfl rfl
  · have hBl : B < (mdG m).length := by omega
    have hg : (mdG m)[B]? = some (glAt m B) := by
      unfold glAt
      rw [List.getElem?_eq_getElem hBl]
      rfl
    obtain ⟨r1, r2, r3, r4⟩ := hG.1 B _ hg
    obtain ⟨g1, g2, g3⟩ := hf.2.2.2.2.1 _ (List.mem_of_getElem? hg)
    have cB : (nI (60 * b + B)).toNatClampNeg = 60 * b + B := nI_clamp (by omega)
    have vB : vp_in (nI (60 * b + B)) 120 := vp_in_nI (by omega) (by decide)
    have w51 : jGlo m op B J = rSetM op (glAt m B).1 J → Wq 283 (d + 3) 51 [some (.ref 103), some (.int (nI op)), some (.long (lN B)), none, none] [] σ (Qv fun σ' => MO t n b C (jGlo m op B J) p σ0 σ') := fun e => by
      refine S_M_variables_51 (pk_le op 34 (fun w => absurd w (by omega)) fun _ => ?_)
      rw [k38, lN_i32, ex, cB, r1]
      refine ⟨vB, (w_var80 (d := d + 1) ho g1.lt h.1 hl4 h0).mono fun x σ2 hx2 => ?_⟩
      obtain ⟨rfl, f2, h2⟩ := Qv_s hx2
      rw [e]
      exact MO.of (f0.tr f2.mg) (h.go f2 h2)
    rw [cB, r2]
    have n0 : ¬ (glAt m B).1 = 0 := by rcases g1 with w | w <;> omega
    have e0 : jGlo m op B J = (if op = 35 then jPush (glAt m B).1 J else (jPop (glAt m B).1 (jAnd J (decide ((glAt m B).2.1 = 1)))).2) := if_pos hBl
    refine And.comm.mp (pk_eq op 36 (fun w => ⟨vB, And.comm.mp (pk_eq (glAt m B).2.1 0 (fun u => ?_) fun u => w51 ?_)⟩) fun w => w51 ?_)
    · rw [e0, if_neg (by omega)]
      refine MO.bad (f0.sI rfl) (h.1.g false) rfl (bf fun v => ?_)
      have := jG_pop v
      rw [decide_eq_false (by omega), show jG (jAnd J false) = (jG J && false) from rfl, Bool.and_false] at this
      cases this
    · rw [e0, if_neg (by omega), decide_eq_true (by omega : (glAt m B).2.1 = 1), jAnd_t]
      unfold rSetM
      rw [if_pos (by omega)]
      exact (if_neg n0).symm
    · have h35 : op = 35 := by omega
      rw [e0, if_pos h35]
      unfold rSetM
      rw [if_neg (by omega), if_neg (by omega)]
/-- behind the test of a load's, a store's ALIGN -/
theorem k_memT {op : Nat} (ho : memL op) (h : MS t n b C J p σ) (hl4 : (jT J).length ≤ 4000) (h0 : 0 < (jB J).length) (f0 : Fr sMJ σ0 σ) :
    (nI op < (54 : Int32) → Wq 285 (d + 3) 106 [some (.ref 103), some (.int (nI op)), none, none, none, none] [] σ (Qv fun σ' => MO t n b C (jMe2 op J) p σ0 σ')) ∧ (¬ nI op < (54 : Int32) → Ci (d + 2) 287 [.int (nI op)] σ (fun x8 σ7 => ((x8 = 0 → Cv (d + 2) 273 [.ref 103, .int (127 : Int32)] σ7 (fun σ9 => Wq 285 (d + 3) 106 [some (.ref 103), some (.int (nI op)), none, none, none, none] [] σ9 (Qv fun σ' => MO t n b C (jMe2 op J) p σ0 σ'))) ∧ (¬ x8 = 0 → Cv (d + 2) 273 [.ref 103, .int (126 : Int32)] σ7 (fun σ10 => Wq 285 (d + 3) 106 [some (.ref 103), some (.int (nI op)), none, none, none, none] [] σ10 (Qv fun σ' => MO t n b C (jMe2 op J) p σ0 σ')))))) := by
  have ho2 := ho
  unfold memL at ho2
  have go : ∀ (K : JS) (σ1 : fkS), MS t n b C K p σ1 → (jT K).length ≤ 4000 → 0 < (jB K).length → Fr sMJ σ0 σ1 → jMe2 op J = (if op < 54 then jPush (acc op) (jPop 127 K).2 else (jPop 127 K).2) → Wq 285 (d + 3) 106 [some (.ref 103), some (.int (nI op)), none, none, none, none] [] σ1 (Qv fun σ' => MO t n b C (jMe2 op J) p σ0 σ') := fun K σ1 h1 l1 b1 f1 e => by
    refine (w_mem106 (d := d + 1) ho h1.1 l1 b1).mono fun x σ2 hx2 => ?_
    obtain ⟨rfl, f2, h2⟩ := Qv_s hx2
    rw [e]
    exact MO.of (f1.tr f2.mg) (h1.go f2 h2)
  refine pk_lt op 54 (fun z => go J σ h hl4 h0 f0 ?_) fun z => ?_
  · unfold jMe2
    rw [if_pos z, if_pos z]
  · refine (m_wide ho).mono fun x σ2 hx => ?_
    obtain ⟨r, rfl, hr, hs⟩ := Qi_s hx
    subst hr
    rw [hs]
    have e2 : jMe2 op J = (jPop 127 (jPop (acc op) J).2).2 := by
      unfold jMe2
      rw [if_neg (by omega)]
    refine ⟨fun y => ?_, fun y => ?_⟩
    · have : acc op = 127 := by
        have := of_decide_eq_false (b2i_0.mp y)
        unfold acc at *
        split at this
        next q => rw [if_pos q]
        · exact absurd rfl this
      rw [this] at e2
      refine sPop (due := 127) h (by decide) (by decide) hl4 h0 f0 fun σ1 f1 h1 => go _ σ1 h1 (Nat.le_trans jPop_T hl4) (by rw [jPop_B]; exact h0) f1 ?_
      rw [e2, if_neg (by omega)]
    · have := of_decide_eq_true (b2t y)
      rw [this] at e2
      refine sPop (due := 126) h (by decide) (by decide) hl4 h0 f0 fun σ1 f1 h1 => go _ σ1 h1 (Nat.le_trans jPop_T hl4) (by rw [jPop_B]; exact h0) f1 ?_
      rw [e2, if_neg (by omega)]
theorem w_memM17 {op : Nat} {I : In} (hI : iOp I = op) (ho : memL op ∨ op = 63 ∨ op = 64) (hops : opsR t n (p - 1) I q) (hp : 0 < p) (h : MS t n b C J p σ) (hl4 : (jT J).length ≤ 4000) (h0 : 0 < (jB J).length) (f0 : Fr sMJ σ0 σ) :
    Wq 285 (d + 3) 17 [some (.ref 103), some (.int (nI op)), none, none, none, none] [] σ (Qv fun σ' => MO t n b C (jMeK op (iS I) J) q σ0 σ') := by
  obtain ⟨-, -, -, o4, -, o6, -⟩ := hops
  rw [hI, show p - 1 + 1 = p by omega] at o4 o6
  have ho2 := ho
  unfold memL at ho2
  refine S_M_memories_17 (pk_le op 62 (fun z => ?_) fun z => ?_)
  · have hm : memL op := by rcases ho with y | y | y <;> first | exact y | omega
    obtain ⟨al, o, q1, u1, u2, u3, -⟩ := o6 hm
    have e : jMeK op (iS I) J = jMe2 op (jAnd J (decide (iS I < 4) && decide (2 ^ iS I ≤ wid op))) := by
      unfold jMeK
      rw [if_neg (by omega), if_neg (by omega)]
    have hal : al < 2 ^ 32 := (nU_l u1).2.1
    have w77 : ∀ σ1, MS t n b C J q σ1 → Fr sMJ σ0 σ1 → (decide (iS I < 4) && decide (2 ^ iS I ≤ wid op)) = false → Wq 285 (d + 3) 77 [some (.ref 103), some (.int (nI op)), none, none, none, none] [] σ1 (Qv fun σ' => MO t n b C (jMeK op (iS I) J) q σ0 σ') := fun σ1 h1 f1 hg => by
      rw [e, hg]
      have e3 : jAnd J false = (jT J, jB J, false) := by
        unfold jAnd
        rw [Bool.and_false]
      rw [e3]
      exact S_M_memories_77 (k_memT hm (h1.g false) hl4 h0 (f1.sI rfl))
    refine sU h u1 f0 fun σ1 f1 h1 => sU h1 u2 f1 fun σ2 f2 h2 => ?_
    show _ ∧ _
    have e3 : 0 < lg_cmp (lN al) (3 : Int64) ↔ 3 < al := by
      have := lGE (x := al) (c := 4) hal (by decide)
      rw [show (3 : Int64) = lN 3 from rfl, lg_cmp_gt, pk_lLT (by omega) (by omega)]
    rw [e3]
    refine ⟨fun y => w77 σ2 h2 f2 ?_, fun y => ?_⟩
    · rw [decide_eq_false (by omega)]
      rfl
    · have hs : iS I = al := by omega
      refine (m_bytes hm).mono fun x σ3 hx => ?_
      obtain ⟨r, rfl, hr, hs3⟩ := Qi_s hx
      subst hr
      rw [hs3, lN_i32, shl_al (by omega : al < 4)]
      have hw : wid op ≤ 8 := by
        unfold wid
        repeat' split
        all_goals decide
      have h8 : 2 ^ al ≤ 8 := by
        have : ∀ a : Fin 4, 2 ^ a.val ≤ 8 := by decide
        exact this ⟨al, by omega⟩
      refine pk_le (2 ^ al) (wid op) (fun w => ?_) fun w => w77 σ2 h2 f2 ?_
      · have hg : (decide (iS I < 4) && decide (2 ^ iS I ≤ wid op)) = true := by
          rw [hs, decide_eq_true (by omega : al < 4), decide_eq_true w]
          rfl
        rw [e, hg, jAnd_t]
        exact k_memT hm h2 hl4 h0 f2
      · rw [hs, decide_eq_false (show ¬ 2 ^ al ≤ wid op by omega), Bool.and_false]
  · have hx := o4 (by omega)
    obtain ⟨hq, hpn⟩ := rX_q hx
    subst hq
    refine sN h hpn f0 fun σ1 f1 h1 => ?_
    show _ ∧ _
    refine And.comm.mp (pk_eq op 64 (fun y => ?_) fun y => ?_)
    · have e : jMeK op (iS I) J = jPush 127 (jPop 127 J).2 := by
        unfold jMeK
        rw [if_neg (by omega), if_pos y]
      rw [e]
      exact sPop (due := 127) h1 (by decide) (by decide) hl4 h0 f1 fun σ2 f2 h2 => sPush (ty := 127) h2 (by decide) (Nat.le_trans jPop_T hl4) f2 fun σ3 f3 h3 => MO.of f3 h3
    · have e : jMeK op (iS I) J = jPush 127 J := by
        unfold jMeK
        rw [if_pos (by omega)]
      rw [e]
      exact sPush (ty := 127) h1 (by decide) hl4 f1 fun σ3 f3 h3 => MO.of f3 h3
theorem m_mems {op : Nat} {I : In} (hl : lenM m) (hK : KM t n b m σ) (hI : iOp I = op) (ho : memL op ∨ op = 63 ∨ op = 64) (hops : opsR t n (p - 1) I q) (hp : 0 < p) (h : MS t n b C J p σ) (hl4 : (jT J).length ≤ 4000) (h0 : 0 < (jB J).length) : Cv (d + 3) 285 [.ref 103, .int (nI op)] σ (fun σ' => MO t n b C (jMem m op (iS I) J) q σ σ') := by
  have l4 : (mdM m).length ≤ 60 := hl.2.2.2.1
  have hb : b < 2 := hK.1
  refine S_M_memories ?_
  rw [hK.2.1, nI_clamp (n := b) (by omega), hK.2.2.1.2.2.2.1.2, jMem_K]
  refine ⟨vp_in_nI hb (by decide), And.comm.mp (pk_eq (mdM m).length 0 (fun z => ?_) fun z => ?_)⟩
  · have e : jAnd J (decide (0 < (mdM m).length)) = (jT J, jB J, false) := by
      unfold jAnd
      rw [decide_eq_false (by omega), Bool.and_false]
    rw [e]
    exact w_memM17 hI ho hops hp (h.g false) hl4 h0 (Fr.rf.sI rfl)
  · rw [decide_eq_true (by omega : 0 < (mdM m).length), jAnd_t]
    exact w_memM17 hI ho hops hp h hl4 h0 Fr.rf
theorem w_num12 {op : Nat} {v : Int64} (ho : op = 65 ∨ op = 66) (hG : rG (decide (op = 65)) t n p = .inl (v, q)) (h : MS t n b C J p σ) (hl4 : (jT J).length ≤ 4000) : Wq 288 (d + 2) 12 [some (.ref 103), some (.int (nI op)), none, none, none] [] σ (Qv fun σ' => MO t n b C (jPush (if op = 65 then 127 else 126) J) q σ σ') := by
  refine S_M_numbers_12 (And.comm.mp (pk_eq op 65 (fun z => ?_) fun z => ?_))
  · rw [decide_eq_true z] at hG
    rw [if_pos z]
    refine sG (W := true) h hG Fr.rf fun σ1 f1 h1 => ?_
    show _ ∧ _
    exact ⟨fun w => absurd (by rw [z]; rfl) w, fun _ => sPush (ty := 127) h1 (by decide) hl4 f1 fun σ3 f3 h3 => MO.of f3 h3⟩
  · rw [decide_eq_false z] at hG
    rw [if_neg z]
    refine sG (W := false) h hG Fr.rf fun σ1 f1 h1 => ?_
    show _ ∧ _
    exact And.comm.mp (pk_eq op 65 (fun w => absurd w z) fun _ => sPush (ty := 126) h1 (by decide) hl4 f1 fun σ3 f3 h3 => MO.of f3 h3)
theorem m_const {op : Nat} {v : Int64} (ho : op = 65 ∨ op = 66) (hG : rG (decide (op = 65)) t n p = .inl (v, q)) (h : MS t n b C J p σ) (hl4 : (jT J).length ≤ 4000) : Cv (d + 2) 288 [.ref 103, .int (nI op)] σ (fun σ' => MO t n b C (jPush (if op = 65 then 127 else 126) J) q σ σ') :=
  S_M_numbers (pk_eq op 65 (fun _ => w_num12 ho hG h hl4) fun z => And.comm.mp (pk_eq op 66 (fun _ => w_num12 ho hG h hl4) fun y => absurd ho (by omega)))
end MEMM
