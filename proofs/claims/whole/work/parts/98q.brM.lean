/-! THE JUDGE OF A FUNCTION: what follows a first byte; branches; the reference -/
section BRM
variable {t : Nat → UInt8} {n b d f p q : Nat} {m : Md} {C : List In} {J K J1 : JS} {σ σ0 : fkS}
theorem w_more232 {i : Nat} {I : In} (hl : lenM m) (hK : KM t n b m σ) (hops : opsR t n (p - 1) I q) (hp : 0 < p) (ho : memL (iOp I) ∨ (63 ≤ iOp I ∧ iOp I ≤ 66) ∨ isNum (iOp I)) (h : MS t n b (mdC m).2 J p σ) (hl4 : (jT J).length ≤ 4000) (h0 : 0 < (jB J).length) : Wq 281 (d + 4) 232 [some (.ref 103), some (.int (nI (iOp I))), none, none, none] [] σ (Qv fun σ' => MO t n b (mdC m).2 (jI t m f i I J) q σ σ') := by
  have ho2 := ho
  unfold memL isNum at ho2
  have num : ¬ (40 ≤ iOp I ∧ iOp I ≤ 64) → Cv (d + 3) 288 [.ref 103, .int (nI (iOp I))] σ (fun σ1 => Qv (fun σ' => MO t n b (mdC m).2 (jI t m f i I J) q σ σ') none σ1) := fun z => by
    by_cases c : iOp I = 65 ∨ iOp I = 66
    · have hG := hops.2.2.2.2.1 c
      rw [show p - 1 + 1 = p by omega] at hG
      have e : jI t m f i I J = jPush (if iOp I = 65 then 127 else 126) J := by
        unfold jI
        rw [if_neg (by omega), if_neg (by omega), if_neg (by omega), if_neg (by omega), if_neg (by omega), if_neg (by omega), if_neg (by omega), if_pos (by omega)]
      rw [e]
      exact m_const (d := d + 1) c hG h hl4
    · have e : jI t m f i I J = jNum (iOp I) J := by
        unfold jI
        rw [if_neg (by omega), if_neg (by omega), if_neg (by omega), if_neg (by omega), if_neg (by omega), if_neg (by omega), if_neg (by omega), if_neg (by omega)]
      have hq : q = p := by
        have := hops.2.2.2.2.2.2.2.2 (by unfold noOp isNum; omega)
        omega
      rw [e, hq]
      refine (m_num (d := d + 1) (by omega) h.1 hl4 h0).mono fun x σ1 hx => ?_
      obtain ⟨rfl, f1, h1⟩ := Qv_s hx
      exact MO.of f1.mg (h.go f1 h1)
  refine S_M_judgesMore_232 (pk_lt (iOp I) 40 (fun z => num (by omega)) (fun z => pk_lt 64 (iOp I) (fun y => num (by omega)) (fun y => ?_) rfl rfl (by omega) (by omega)) rfl rfl (by omega) (by omega))
  have e : jI t m f i I J = jMem m (iOp I) (iS I) J := by
    unfold jI
    rw [if_neg (by omega), if_neg (by omega), if_neg (by omega), if_neg (by omega), if_neg (by omega), if_neg (by omega), if_pos (by omega)]
  rw [e]
  exact m_mems (d := d) hl hK rfl (by
    rcases ho with w | w | w
    · exact .inl w
    · exact .inr (by omega)
    · unfold isNum at w
      exact absurd w (by omega)) hops hp h hl4 h0
theorem m_more {i : Nat} {I : In} (hl : lenM m) (hf : fcM t n m) (hT : vTy m = true) (hK : KM t n b m σ) (hF : FX m f) (h55 : σ.1 103 55 = nI f) (h56 : σ.1 103 56 = nI (60 * b + fnTy m f)) (hops : opsR t n (p - 1) I q) (hp : 0 < p) (hlg : lgl (iOp I)) (h16 : 16 ≤ iOp I) (h : MS t n b (mdC m).2 J p σ) (hl4 : (jT J).length ≤ 4000) (h0 : 0 < (jB J).length) : Cv (d + 4) 281 [.ref 103, .int (nI (iOp I))] σ (fun σ' => MO t n b (mdC m).2 (jI t m f i I J) q σ σ') := by
  have hlg2 := hlg
  unfold lgl noOp isNum memL at hlg2
  have ep : p - 1 + 1 = p := by omega
  have h256 : iOp I < 2 ^ 31 := by omega
  have w232 : ¬ (iOp I < 32 ∨ iOp I ≤ 36) → Wq 281 (d + 4) 232 [some (.ref 103), some (.int (nI (iOp I))), none, none, none] [] σ (Qv fun σ' => MO t n b (mdC m).2 (jI t m f i I J) q σ σ') := fun z => w_more232 hl hK hops hp (by unfold memL isNum; omega) h hl4 h0
  refine S_M_judgesMore (And.comm.mp (pk_eq (iOp I) 16 (fun z => ?_) fun n16 => And.comm.mp (pk_eq (iOp I) 17 (fun z => ?_) fun n17 => And.comm.mp (pk_eq (iOp I) 26 (fun z => ?_) fun n26 => And.comm.mp (pk_eq (iOp I) 27 (fun z => ?_) fun n27 => pk_lt (iOp I) 32 (fun z => absurd hlg2 (by omega)) fun z => pk_lt 36 (iOp I) (fun y => w232 (by omega)) fun y => ?_)))))
  · have hU := hops.2.1 (by omega)
    rw [ep] at hU
    have e : jI t m f i I J = jC16 t m (iB I) J := by
      unfold jI
      rw [if_neg (by omega), if_neg (by omega), if_pos (by omega), if_pos z]
    rw [e]
    exact k_more16 (d := d + 1) hl hf hT hK hU h hl4 h0
  · obtain ⟨q1, hU, hX⟩ := hops.2.2.1 z
    rw [ep] at hU
    have e : jI t m f i I J = jC17 t m (iB I) J := by
      unfold jI
      rw [if_neg (by omega), if_neg (by omega), if_pos (by omega), if_neg (by omega)]
    rw [e]
    exact k_more17 (d := d + 1) hl hf hK hU hX h hl4 h0
  · have hq : q = p := by
      have := hops.2.2.2.2.2.2.2.2 (by unfold noOp; omega)
      omega
    have e : jI t m f i I J = (jPop 0 J).2 := by
      unfold jI
      rw [if_neg (by omega), if_neg (by omega), if_neg (by omega), if_pos (by omega), if_pos z]
    rw [e, hq]
    exact sTop h hl4 h0 Fr.rf fun σ1 f1 h1 => MO.of f1 h1
  · have hq : q = p := by
      have := hops.2.2.2.2.2.2.2.2 (by unfold noOp; omega)
      omega
    have e : jI t m f i I J = jSel J := by
      unfold jI
      rw [if_neg (by omega), if_neg (by omega), if_neg (by omega), if_pos (by omega), if_neg (by omega)]
    rw [e, hq]
    exact k_more27 (d := d + 1) h hl4 h0 fun σ' h => h
  · have hU := hops.2.1 (by omega)
    rw [ep] at hU
    have e : jI t m f i I J = if iOp I ≤ 34 then jLoc t m f (iOp I) (iB I) J else jGlo m (iOp I) (iB I) J := by
      unfold jI
      rw [if_neg (by omega), if_neg (by omega), if_neg (by omega), if_neg (by omega)]
      by_cases c : iOp I ≤ 34
      · rw [if_pos c, if_pos c]
      · rw [if_neg c, if_neg c, if_pos (by omega)]
    rw [e]
    refine sU h hU Fr.rf fun σ1 f1 h1 => ?_
    show Cv (d + 3) 283 _ σ1 _
    exact m_vars (d := d) hl hf (hK.fj hl f1) hF ((f1 103 55 rfl).1.trans h55) ((f1 103 56 rfl).1.trans h56) (by omega) (nU_l hU).2.1 h1 hl4 h0 f1
theorem jBk_some {lab : Nat} (h : lab < (jB J).length) : ∃ bk, jBk J lab = some bk := by
  unfold jBk
  rw [if_pos h]
  exact ⟨_, List.getElem?_eq_getElem (by omega)⟩
theorem jBk_none {lab : Nat} (h : ¬ lab < (jB J).length) : jBk J lab = none := if_neg h
theorem jBk_B {lab : Nat} (h : jB K = jB J) : jBk K lab = jBk J lab := by
  unfold jBk
  rw [h]
theorem jG_brF {op due : Nat} {Ls : List Nat} (h : Ls.all (jOk1 C J1 (jDue C J1 Ls)) = false ∨ jG J1 = false) : jG (jBr3 op due (jBr2 C Ls J1)) = false := bf fun y => by
  have h2 : (jG J1 && Ls.all (jOk1 C J1 (jDue C J1 Ls))) = true := jG_br3 y
  rw [Bool.and_eq_true] at h2
  rcases h with z | z
  · rw [z] at h2
    cases h2.2
  · rw [z] at h2
    cases h2.1
theorem w_j165 {op lab : Nat} (ho : op = 12 ∨ op = 13) (hU : nU t n p = .inl (lab, q)) (h : MS t n b C J1 p σ) (hl4 : (jT J1).length ≤ 4000) (h0 : 0 < (jB J1).length) (f0 : Fr sMJ σ0 σ) : Wq 271 (d + 3) 165 [some (.ref 103), some (.int (nI op)), none, none, none, none] [] σ (Qv fun σ' => MO t n b C (jBr3 op (jDue C J1 [lab]) (jBr2 C [lab] J1)) q σ0 σ') := by
  have hlab := (nU_l hU).2.1
  refine S_M_judges_165 (sU h hU f0 fun σ1 f1 h1 => (m_isLabel h1.1 hlab).mono fun x σ2 hx => ?_)
  obtain ⟨r, rfl, hr⟩ := Qi_s hx
  show _ ∧ _
  rcases hr with ⟨z, rfl, rfl⟩ | ⟨z, rfl, rfl⟩
  · obtain ⟨bk, hbk⟩ := jBk_some z
    have hbn : bNeed C bk < 200 := bNeed_lt h.1.1 hbk
    have eD : jDue C J1 [lab] = bNeed C bk := by
      unfold jDue
      show (match jBk J1 lab with | some b => bNeed C b | none => 0) = _
      rw [hbk]
    have e2 : jBr2 C [lab] J1 = J1 := by
      unfold jBr2
      have : ([lab].all (jOk1 C J1 (jDue C J1 [lab]))) = true := by
        rw [eD]
        show (jOk1 C J1 (bNeed C bk) lab && true) = true
        unfold jOk1
        rw [hbk, Bool.and_true]
        exact decide_eq_true rfl
      rw [this, jAnd_t]
    rw [eD, e2]
    refine ⟨fun _ => (m_needs h1.1 hbk).mono fun x σ3 hx => ?_, fun y => absurd y (by decide)⟩
    obtain ⟨r, rfl, rfl, rfl⟩ := Qi_s hx
    show Cv (d + 2) 273 _ σ3 _
    refine sPopG h1 hbn hl4 h0 f1 fun σ4 f4 h4 => ?_
    have l4 := Nat.le_trans (jPopG_T (ty := bNeed C bk) (J := J1)) hl4
    have b4 : 0 < (jB (jPopG (bNeed C bk) J1)).length := by rw [jPopG_B]; exact h0
    have hbk4 : jBk (jPopG (bNeed C bk) J1) lab = some bk := (jBk_B jPopG_B).trans hbk
    show _ ∧ _
    refine And.comm.mp (pk_eq op 12 (fun y => ?_) fun y => ?_)
    · unfold jBr3
      rw [if_neg (by omega)]
      exact sDead h4 l4 b4 f4 fun σ5 f5 h5 => MO.of f5 h5
    · unfold jBr3
      rw [if_pos (by omega)]
      refine (m_needs h4.1 hbk4).mono fun x σ5 hx => ?_
      obtain ⟨r, rfl, rfl, rfl⟩ := Qi_s hx
      show _ ∧ _
      refine pk_eq (bNeed C bk) 0 (fun w => ?_) fun w => (m_needs h4.1 hbk4).mono fun x σ6 hx => ?_
      · have : jPushG (bNeed C bk) (jPopG (bNeed C bk) J1) = jPopG (bNeed C bk) J1 := if_pos w
        rw [this]
        exact MO.of f4 h4
      · obtain ⟨r, rfl, rfl, rfl⟩ := Qi_s hx
        have : jPushG (bNeed C bk) (jPopG (bNeed C bk) J1) = jPush (bNeed C bk) (jPopG (bNeed C bk) J1) := if_neg w
        rw [this]
        exact sPush h4 hbn l4 f4 fun σ5 f5 h5 => MO.of f5 h5
  · refine ⟨fun y => absurd rfl y, fun _ => ?_⟩
    refine MO.bad (f1.sI rfl) (h1.1.g false) rfl (jG_brF (.inl ?_))
    show (jOk1 C J1 _ lab && true) = false
    unfold jOk1
    rw [jBk_none z]
    rfl
theorem w_bt15z {v1 v2 v3 : Int32} (h : mJ C K σ) (hg : jG K = false) (hl4 : (jT K).length ≤ 4000) (h0 : 0 < (jB K).length) (f0 : Fr sMJ σ0 σ) (hJ : jG J = false) : Wq 280 (d + 3) 15 [some (.ref 103), some (.int v1), some (.int v2), some (.int v3), none, none] [] σ (Qv fun σ' => MO t n b C J q σ0 σ') := by
  have go : Cv (d + 2) 273 [.ref 103, .int v2] σ (fun σ1 => Cv (d + 2) 272 [.ref 103] σ1 (fun σ2 => Qv (fun σ' => MO t n b C J q σ0 σ') none σ2)) := sPopBad (d := d + 1) h hg hl4 h0 f0 fun K2 σ1 f1 h1 g1 l1 b1 => sDeadBad h1 g1 l1 b1 f1 fun K3 σ2 f2 h2 g2 => MO.bad f2 h2 g2 hJ
  have h57 : σ.1 103 57 = 0 := h.2.2.2.2.2.trans (by rw [hg]; rfl)
  exact S_M_branches_15 ⟨fun _ => go, fun _ => ⟨fun _ => go, fun z => absurd h57 z⟩⟩
theorem w_bt15 {Ls : List Nat} {mm : Nat} (hmm : mm ≤ 60) (hlen : 0 < Ls.length) (hl4 : (jT J1).length ≤ 4000) (h0 : 0 < (jB J1).length) :
    ∀ (r j pos : Nat) (L1 L2 : List Nat) (v2 : Int32) (σ : fkS), Ls = L1 ++ L2 → L1.length = j → pFs t n r pos = .inl (L2, q) → j + r = mm + 1 → (j = 0 ∧ v2 = -1 ∨ ∃ T, 0 < j ∧ T < 200 ∧ v2 = nI T ∧ ∀ x ∈ L1, ∃ bk, jBk J1 x = some bk ∧ bNeed C bk = T) → MS t n b C J1 pos σ → Fr sMJ σ0 σ →
    Wq 280 (d + 3) 15 [some (.ref 103), some (.int (nI mm)), some (.int v2), some (.int (nI j)), none, none] [] σ (Qv fun σ' => MO t n b C (jBr3 14 (jDue C J1 Ls) (jBr2 C Ls J1)) q σ0 σ')
  | r, j, pos, L1, L2, v2, σ, hL, hj, hp, hjr, hv, h, f0 => by
    by_cases hg : jG J1 = true
    · have h57 : σ.1 103 57 = 1 := h.1.2.2.2.2.2.trans (by rw [hg]; rfl)
      match r with
      | 0 =>
        rw [pFs] at hp
        cases hp
        have hL1 : Ls = L1 := by rw [hL, List.append_nil]
        rcases hv with ⟨z, -⟩ | ⟨T, -, hT, rfl, hall⟩
        · rw [hL1] at hlen
          omega
        · have hlast : Ls[Ls.length - 1]? = some Ls[Ls.length - 1] := List.getElem?_eq_getElem (by omega)
          obtain ⟨bk, k1, k2⟩ := hall _ (by rw [← hL1]; exact List.mem_of_getElem? hlast)
          have eD : jDue C J1 Ls = T := by
            unfold jDue
            rw [hlast]
            show (match jBk J1 Ls[Ls.length - 1] with | some b => bNeed C b | none => 0) = _
            rw [k1]
            exact k2
          have e2 : jBr2 C Ls J1 = J1 := by
            unfold jBr2
            have : (Ls.all (jOk1 C J1 (jDue C J1 Ls))) = true := by
              rw [eD, List.all_eq_true]
              intro x hx
              rw [hL1] at hx
              obtain ⟨bk2, k3, k4⟩ := hall x hx
              unfold jOk1
              rw [k3]
              exact decide_eq_true k4
            rw [this, jAnd_t]
          rw [eD, e2]
          refine S_M_branches_15 (pk_lt mm j (fun _ => ?_) fun z => absurd z (by omega))
          refine sPopG (d := d + 1) h hT hl4 h0 f0 fun σ1 f1 h1 => sDead h1 (Nat.le_trans jPopG_T hl4) (by rw [jPopG_B]; exact h0) f1 fun σ2 f2 h2 => ?_
          unfold jBr3
          rw [if_neg (by decide)]
          exact MO.of f2 h2
      | r + 1 =>
        rw [pFs] at hp
        obtain ⟨lab, q1, u1, hp⟩ := bR_inl hp
        obtain ⟨L3, q2, u2, hp⟩ := bR_inl hp
        have e9 := Sum.inl.inj hp
        have e7 : lab :: L3 = L2 := congrArg Prod.fst e9
        have e8 : q = q2 := (congrArg Prod.snd e9).symm
        subst e7
        subst e8
        have hlab := (nU_l u1).2.1
        have hmem : lab ∈ Ls := by rw [hL]; exact List.mem_append_right _ List.mem_cons_self
        refine S_M_branches_15 (pk_lt mm j (fun z => absurd z (by omega)) fun _ => ?_)
        rw [h57]
        refine ⟨fun z => absurd z (by decide), fun _ => sU h u1 f0 fun σ1 f1 h1 => (m_isLabel h1.1 hlab).mono fun x σ2 hx => ?_⟩
        obtain ⟨r0, rfl, hr⟩ := Qi_s hx
        show _ ∧ _
        rcases hr with ⟨z, rfl, rfl⟩ | ⟨z, rfl, rfl⟩
        · obtain ⟨bk, hbk⟩ := jBk_some z
          have hbn : bNeed C bk < 200 := bNeed_lt h.1.1 hbk
          have next : (∀ x ∈ L1, ∃ bk2, jBk J1 x = some bk2 ∧ bNeed C bk2 = bNeed C bk) → Wq 280 (d + 3) 15 [some (.ref 103), some (.int (nI mm)), some (.int (nI (bNeed C bk))), some (.int (nI j + (1 : Int32))), none, none] [] σ2 (Qv fun σ' => MO t n b C (jBr3 14 (jDue C J1 Ls) (jBr2 C Ls J1)) q σ0 σ') := fun hall => by
            rw [nI_1]
            refine w_bt15 hmm hlen hl4 h0 r (j + 1) q1 (L1 ++ [lab]) L3 _ σ2 (by rw [hL, List.append_assoc]; rfl) (by rw [List.length_append, hj]; rfl) u2 (by omega) (.inr ⟨_, by omega, hbn, rfl, fun x hx => ?_⟩) h1 f1
            rcases List.mem_append.mp hx with y | y
            · exact hall x y
            · rw [List.mem_singleton.mp y]
              exact ⟨bk, hbk, rfl⟩
          refine ⟨fun _ => ?_, fun y => absurd y (by decide)⟩
          rcases hv with ⟨j0, rfl⟩ | ⟨T, j0, hT, rfl, hall⟩
          · refine ⟨fun _ => (m_needs h1.1 hbk).mono fun x σ3 hx => ?_, fun y => absurd (by decide) y⟩
            obtain ⟨r1, rfl, rfl, rfl⟩ := Qi_s hx
            refine next fun x hx => ?_
            have : L1 = [] := List.eq_nil_of_length_eq_zero (by omega)
            rw [this] at hx
            cases hx
          · refine ⟨fun y => absurd y (nI_pos (by omega)), fun _ => (m_needs h1.1 hbk).mono fun x σ3 hx => ?_⟩
            obtain ⟨r1, rfl, rfl, rfl⟩ := Qi_s hx
            show _ ∧ _
            refine pk_eq (bNeed C bk) T (fun w => ?_) fun w => ?_
            · refine (m_needs h1.1 hbk).mono fun x σ4 hx => ?_
              obtain ⟨r1, rfl, rfl, rfl⟩ := Qi_s hx
              exact next fun x hx => by rw [w]; exact hall x hx
            · have hbad := h1.1.g false
              have hbk2 : jBk (jT J1, jB J1, false) lab = some bk := hbk
              refine (m_needs hbad hbk2).mono fun x σ4 hx => ?_
              obtain ⟨r1, rfl, rfl, rfl⟩ := Qi_s hx
              refine w_bt15z hbad rfl hl4 h0 (f1.sI rfl) (jG_brF (.inl (bf fun y => ?_)))
              have h9 := List.all_eq_true.mp y
              have h8 := h9 lab hmem
              have h7 : L1[0]? = some L1[0] := List.getElem?_eq_getElem (by omega)
              have h6 := List.mem_of_getElem? h7
              obtain ⟨bk3, k3, k4⟩ := hall _ h6
              have h5 := h9 L1[0] (by rw [hL]; exact List.mem_append_left _ h6)
              unfold jOk1 at h8 h5
              rw [hbk] at h8
              rw [k3] at h5
              have h8 := of_decide_eq_true h8
              have h5 := of_decide_eq_true h5
              exact w (by rw [h8, ← h5, k4])
        · refine ⟨fun y => absurd rfl y, fun _ => ?_⟩
          refine MO.bad (f1.sI rfl) (h1.1.g false) rfl (jG_brF (.inl (bf fun y => ?_)))
          have h8 := List.all_eq_true.mp y lab hmem
          unfold jOk1 at h8
          rw [jBk_none z] at h8
          cases h8
    · have hg := bf hg
      exact w_bt15z h.1 hg hl4 h0 f0 (jG_brF (.inr hg))
theorem m_brTab {I : In} (hops : opsR t n (p - 1) I q) (hp : 0 < p) (h14 : iOp I = 14) (h : MS t n b C J p σ) (hl4 : (jT J).length ≤ 4000) (h0 : 0 < (jB J).length) : Cv (d + 3) 280 [.ref 103] σ (fun σ' => MO t n b C (jBr C 14 (iL I) J) q σ σ') := by
  obtain ⟨q1, u1, u2⟩ := hops.2.2.2.2.2.2.1 h14
  rw [show p - 1 + 1 = p by omega] at u1
  have hm := (nV_l u1).2.1
  have hlen := (pFs_len _ _ _ _ u2).1
  refine S_M_branches (sPop (due := 127) (d := d + 1) h (by decide) (by decide) hl4 h0 Fr.rf fun σ1 f1 h1 => sV h1 u1 f1 fun σ2 f2 h2 => ?_)
  have e : jBr C 14 (iL I) J = jBr3 14 (jDue C (jPop 127 J).2 (iL I)) (jBr2 C (iL I) (jPop 127 J).2) := rfl
  show Wq 280 (d + 3) 15 _ _ σ2 _
  rw [e]
  exact w_bt15 hm (by omega) (Nat.le_trans jPop_T hl4) (by rw [jPop_B]; exact h0) (iS I + 1) 0 q1 [] (iL I) (-1) σ2 rfl rfl u2 (by omega) (.inl ⟨rfl, rfl⟩) h2 f2
end BRM
