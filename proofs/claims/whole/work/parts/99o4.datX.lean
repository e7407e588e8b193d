/-! an INSTRUCTION that only changes values, the class -/
def sGr (c j : Nat) : Bool := sOp c j || (Nat.beq c 56 && Nat.beq j 4)
theorem sGr_da {c j : Nat} (h : sGr c j = true) : sDa c j = true := by
  unfold sGr sOp at h
  unfold sDa
  simp only [Bool.or_eq_true, Bool.and_eq_true, Nat.beq_eq] at h ⊢
  omega
theorem sOp_gr {c j : Nat} (h : sOp c j = true) : sGr c j = true := by
  unfold sGr
  rw [h]
  rfl
theorem lgl_lo {op : Nat} (h : lgl op) (h1 : 18 ≤ op) (h2 : op ≤ 36) : op = 26 ∨ op = 27 ∨ 32 ≤ op ∧ op ≤ 36 := by
  unfold lgl noOp isNum memL at h
  omega
theorem lgl_me {op : Nat} (h : lgl op) (h1 : 36 < op) (h2 : op ≤ 62) : memL op ∧ (op ≤ 53 → 40 ≤ op) := by
  unfold lgl noOp isNum at h
  have : memL op := by
    rcases h with h | h | h | h | h | h | h | h | h | h
    · omega
    · omega
    · omega
    · omega
    · omega
    · omega
    · omega
    · omega
    · exact h
    · omega
  refine ⟨this, ?_⟩
  unfold memL at this
  omega
theorem lgl_nu {op : Nat} (h : lgl op) (h1 : 66 < op) : isNum op := by
  unfold lgl noOp memL at h
  rcases h with h | h
  · rcases h with h | h | h | h | h | h | h | h
    all_goals first | exact h | omega
  · omega
section DATX
variable {t : Nat → UInt8} {n d f i j tk : Nat} {m : Md} {σ σ' : fkS} {L L2 S S2 R P B A : List Int64} {e e2 : Env} {sp : Bool} {fs : List Fm} {v w : Int64} {I : In} {Q : fkS → Prop}
theorem okK.mx (h : okK t n m) : (mdM m).length ≤ 1 ∧ mxP m ≤ 2 ∧ (mdG m).length ≤ 60 := by
  obtain ⟨v1, v2, v3, v4, v5, v6⟩ := vd_facts h.2.2.2.2.1
  have hlim := lim_le v5
  refine ⟨v3, ?_, h.1.2.2.2.2.1⟩
  unfold mxP
  by_cases z : (mdM m).length = 1
  · cases hb : (liLast (mdM m)).2 with
    | none => exact Nat.le_refl _
    | some b => exact hlim.2 z b hb
  · have : mdM m = [] := List.length_eq_zero_iff.mp (by omega)
    rw [this]
    decide
theorem x_grow (hX : SX t n m σ) (hM1 : (mdM m).length = 1) (hp : eP e ≤ 2) (h4 : σ.1 56 4 = nI (eP e)) (hB : oX σ (v :: A)) (hQ : ∀ σ', σ'.2.2 = σ.2.2 → Fr sGr σ σ' → (eP e + lo32 v ≤ mxP m → σ'.1 56 4 = nI (eP e + lo32 v) ∧ oX σ' (lN (eP e) :: A)) → (¬ eP e + lo32 v ≤ mxP m → σ'.1 56 4 = nI (eP e) ∧ oX σ' (-1 :: A)) → Q σ') : Dv (d + 1) 119 [.ref 56] σ Q := by
  have hl : A.length < 24000 := hB.2.1
  have hmx := hX.1.mx.2.1
  have hlo : lo32 v < 2 ^ 32 := Nat.mod_lt _ (by decide)
  have hlim : σ.2.1 8 1 = lM (liLast (mdM m)).2 := (hX.2.1.2.2.2.1.2 _ (li_get hM1).1).2
  have e56 := hX.2.2.2.1
  have cut : ∀ {σ1 : fkS} {s0 : Int64}, s0 = lN (mxP m) → σ1.2.2 = σ.2.2 → Fr sOp σ σ1 → oX σ1 A → Wq 119 (d + 1) 44 [some (.ref 56), some (.long (lN (lo32 v))), none, none, none] [.long s0] σ1 (Qv fun σ' => σ'.2.2 = σ.2.2 ∧ Q σ') := fun {σ1 s0} hs e1 f1 o1 => by
    have k4 : σ1.1 56 4 = nI (eP e) := (f1 _ _ rfl).1.trans h4
    refine S_Machine_grow_44 ?_
    rw [hs, k4, nI_l (by omega), lg_cmp_le, lN_add, pk_lLE (by omega) (by omega)]
    refine ⟨fun z => ?_, fun z => ?_⟩
    · refine x_push o1 hl fun σ2 e2 f2 o2 => ?_
      simp only [sW_eq e2]
      have e2 := e2.trans e1
      have f2' := f1.tr f2
      have k2 : σ2.1 56 4 = nI (eP e) := (f2' _ _ rfl).1.trans h4
      rw [k2, lN_i, nI_add]
      refine ⟨e2, hQ _ e2 ((f2'.mono fun _ _ => sOp_gr).sI rfl) (fun _ => ⟨sI_ss, o2.fr (S := fun c k => Nat.beq c 56 && Nat.beq k 4) (Fr.rf.sI rfl) rfl fun _ => rfl⟩) fun y => absurd z y⟩
    · refine x_push o1 hl fun σ2 e2 f2 o2 => ?_
      simp only [sW_eq e2]
      have e2 := e2.trans e1
      have f2' := f1.tr f2
      exact ⟨e2, hQ _ e2 (f2'.mono fun _ _ => sOp_gr) (fun y => absurd y z) fun _ => ⟨(f2' _ _ rfl).1.trans h4, o2⟩⟩
  refine S_Machine_grow (Q := Qv _) e56 (x_pop hB fun σ1 e1 f1 o1 => ?_)
  simp only [sW_eq e1]
  have k8 : σ1.2.1 8 1 = lM (liLast (mdM m)).2 := (f1 _ _ rfl).2.1.trans hlim
  refine ⟨by decide, vp_in_nI (n := 1) (by decide) (by decide), ?_⟩
  rw [show (1 : Int32).toNatClampNeg = 1 from rfl, k8, and32]
  unfold mxP at *
  cases hb : (liLast (mdM m)).2 with
  | none =>
    rw [hb] at cut
    exact ⟨fun z => absurd z (by decide), fun _ => cut rfl e1 f1 o1⟩
  | some b =>
    rw [hb] at cut hmx
    have hmx : b ≤ 2 := hmx
    refine ⟨fun _ => ⟨by decide, vp_in_nI (n := 1) (by decide) (by decide), cut ?_ e1 f1 o1⟩, fun z => absurd ?_ z⟩
    · show (if (2 : Int64) < lN b then (2 : Int64) else lN b) = lN b
      rw [if_neg]
      rw [show (2 : Int64) = lN 2 from rfl, pk_lLT (by omega) (by omega)]
      omega
    · show 0 ≤ lg_cmp (lN b) (lN 0)
      rw [lg_ge, pk_lLE (by omega) (by omega)]
      omega
theorem x_data (hX : SX t n m σ) (hI : (mdC m).2[i]? = some I) (hlg : lgl (iOp I)) (hoff : memL (iOp I) → offI I < 2 ^ 32) (hd : iOp I = 1 ∨ 18 ≤ iOp I) (h : PX m ((f, j, L, S) :: fs, [], e, tk, 0, sp) σ) (hs : opSh m f I S) (he : evOk m e) (hLl : L.length = loN m f) (hl : (fl ((f, j, L, S) :: fs)).length < 24000) (hQ : ∀ σ', σ'.2.2 = σ.2.2 → Fr sDa σ σ' → PX m ((f, j, (dop m I L S e).2.1, (dop m I L S e).2.2.1) :: fs, [], (dop m I L S e).2.2.2, tk, (dop m I L S e).1, sp) σ' → Q σ') : Dv (d + 5) 112 [.ref 56, .int (nI (iOp I)), .int (nI i)] σ Q := by
  have hmx := hX.1.mx
  have hi : i < 4000 := by
    have := hX.1.2.2.2.2.2.2.1
    have := get_lt hI
    omega
  have hop : iOp I < 256 := (hX.DC.2.1 i I hI).2
  have e56 := hX.2.2.2.2.1
  have hrow := (hX.row hI).2.1
  have hfst : ¬ (iOp I = 12 ∨ iOp I = 13 ∨ iOp I = 14) → σ.2.1 21 i = iA I := fun z => by
    rw [hrow]
    unfold iFirst
    rw [if_neg z]
  have hox := h.ox
  have hl' : (S ++ (L.reverse ++ fl fs)).length < 24000 := hl
  have e0 : fl fs ++ [] = fl fs := List.append_nil _
  rw [e0] at hox
  obtain ⟨t1, t2, t3, t4⟩ := id h
  have ht : σ.1 56 15 = nI 0 := t3
  have fin : ∀ {σ' : fkS} {tr : Nat} {S2 : List Int64} {e2 : Env}, dop m I L S e = (tr, L, S2, e2) → σ'.2.2 = σ.2.2 → Fr sDa σ σ' → σ'.1 56 15 = nI tr → envX m e2 σ' → (tr = 0 → oX σ' (S2 ++ (L.reverse ++ fl fs))) → σ'.2.2 = σ.2.2 ∧ Q σ' := fun {σ' tr S2 e2} hd e1 f1 h15 hen o1 => by
    refine ⟨e1, hQ σ' e1 f1 ?_⟩
    rw [hd]
    exact h.data f1 hen h15 (fun z => by rw [e0]; exact o1 z) rfl
  have mo : ∀ {σ' : fkS}, Fr sOp σ σ' → Fr sDa σ σ' := fun f1 => f1.mono fun _ _ => sOp_da
  have mt : ∀ {σ' : fkS}, Fr sTr σ σ' → Fr sDa σ σ' := fun f1 => f1.mono fun _ _ => sTr_da
  have envT : ∀ {σ' : fkS}, Fr sTr σ σ' → envX m e σ' := fun f1 => t1.fr f1 (fun _ => rfl) (fun _ => rfl) rfl
  have gt : ∀ {c : Nat}, c < iOp I → c < 256 → nI c < nI (iOp I) := fun a b => nI_lt a (by omega)
  have ngt : ∀ {c : Nat}, iOp I ≤ c → c < 256 → ¬ nI c < nI (iOp I) := fun a b => nI_nlt a (by omega)
  have ne : ∀ {c : Nat}, iOp I ≠ c → c < 256 → ¬ nI (iOp I) = nI c := fun a b z => a ((nI_eq (by omega) (by omega)).mp z)
  refine S_Machine_step (Q := Qv _) e56 ?_
  rcases hd with h1 | h18
  · refine ⟨fun z => absurd z (ngt (c := 17) (by omega) (by decide)), fun _ => ?_⟩
    rw [h1]
    refine S_Machine_control (Q := Qv _) e56 ⟨by decide, vp_in_nI hi (by decide), ?_⟩
    have go : σ.2.2 = σ.2.2 ∧ Q σ := fin (σ' := σ) (tr := 0) (S2 := S) (e2 := e) (by unfold dop; rw [h1]; rfl) rfl Fr.rf ht t1 fun _ => hox
    repeat' apply And.intro
    all_goals first | exact trivial | (intro z; first | exact absurd z (by decide) | skip)
    all_goals (refine ⟨rfl, ?_⟩; show Qv (fun σ' => σ'.2.2 = σ.2.2 ∧ Q σ') none (sW σ σ); rw [sW_eq rfl]; exact go)
  refine ⟨fun _ => ?_, fun z => absurd (gt (c := 17) (by omega) (by decide)) z⟩
  by_cases h36 : iOp I ≤ 36
  · refine ⟨fun z => absurd z (ngt (c := 36) h36 (by decide)), fun _ => ⟨by decide, vp_in_nI hi (by decide), ?_⟩⟩
    rw [nI_clamp (by omega), hfst (by omega), (iB_nI I).1]
    refine x_var (lgl_lo hlg h18 h36) h hs hLl hl hmx.2.2 fun σ1 e1 f1 p1 => ?_
    rw [sW_eq e1]
    exact ⟨e1, hQ σ1 e1 f1 p1⟩
  refine ⟨fun _ => ?_, fun z => absurd (gt (c := 36) (by omega) (by decide)) z⟩
  obtain ⟨s1, s2, s3, s4, s5, s6, s7, s8, s9, s10, s11, s12, s13⟩ := hs
  by_cases h63 : iOp I = 63
  · refine ⟨fun z => absurd (by rw [h63]; rfl) z, fun _ => ?_⟩
    have k4 : σ.1 56 4 = nI (eP e) := t1.2.2
    have hp := he.2
    rw [k4, nI_l (by omega)]
    refine x_push hox hl' fun σ1 e1 f1 o1 => ?_
    rw [sW_eq e1]
    exact fin (S2 := lN (eP e) :: S) (by unfold dop; rw [h63]; rfl) e1 (mo f1) ((f1 _ _ rfl).1.trans ht) (t1.fo f1) fun _ => o1
  refine ⟨fun _ => ?_, fun z => absurd z (ne h63 (by decide))⟩
  by_cases h64 : iOp I = 64
  · refine ⟨fun z => absurd (by rw [h64]; rfl) z, fun _ => ?_⟩
    obtain ⟨v, r, rfl⟩ := s9 h64
    have hp := he.2
    refine x_grow hX (s10 (by omega)) hp t1.2.2 hox fun σ1 e1 f1' ga gb => ?_
    rw [sW_eq e1]
    have g15 : σ1.1 56 15 = σ.1 56 15 := (f1' _ _ rfl).1
    have f1 := f1'.mono fun _ _ => sGr_da
    have hd : dop m I L (v :: r) e = if eP e + lo32 v ≤ mxP m then (0, L, lN (eP e) :: r, (eG e, eM e, eP e + lo32 v)) else (0, L, -1 :: r, e) := by unfold dop; rw [h64]; rfl
    by_cases z : eP e + lo32 v ≤ mxP m
    · rw [if_pos z] at hd
      refine fin hd e1 f1 (g15.trans ht) ⟨fun k hk => (f1' _ _ rfl).2.1.trans (t1.1 k hk), fun k hk => ?_, (ga z).1⟩ fun _ => (ga z).2
      rw [(f1' 58 (k / 8) rfl).2.1]
      exact t1.2.1 k hk
    · rw [if_neg z] at hd
      refine fin hd e1 f1 (g15.trans ht) ⟨fun k hk => (f1' _ _ rfl).2.1.trans (t1.1 k hk), fun k hk => ?_, (gb z).1⟩ fun _ => (gb z).2
      rw [(f1' 58 (k / 8) rfl).2.1]
      exact t1.2.1 k hk
  refine ⟨fun _ => ?_, fun z => absurd z (ne h64 (by decide))⟩
  by_cases h53 : iOp I ≤ 53
  · refine ⟨fun z => absurd z (ngt (c := 53) h53 (by decide)), fun _ => ⟨by decide, vp_in_nI hi (by decide), ?_⟩⟩
    obtain ⟨hml, h40⟩ := lgl_me hlg (by omega) (by omega)
    obtain ⟨x, r, rfl⟩ := s7 ⟨h40 h53, h53⟩
    rw [nI_clamp (by omega), hfst (by omega)]
    have hd : dop m I L (x :: r) e = if inA e x (offI I) (wid (iOp I)) = true then (0, L, ldV (iOp I) (eM e) (lo32 x + offI I) :: r, e) else (4, L, x :: r, e) := by
      unfold dop
      rw [if_neg (by omega), if_neg (by omega), if_neg (by omega), if_neg (by omega), if_neg (by omega), if_neg (by omega), if_neg (by omega), if_neg (by omega), if_pos h53]
      rfl
    unfold inA at hd
    refine x_load hop he.2 t1.2.2 t1.2.1 hox (hoff hml) (fun z σ1 e1 f1 g15 o1 => ?_) fun z σ1 e1 f1 g15 => ?_
    · rw [sW_eq e1]
      have z : lo32 x + offI I + wid (iOp I) ≤ 65536 * eP e := z
      rw [if_pos (decide_eq_true z)] at hd
      exact fin hd e1 (mt f1) (g15.trans ht) (envT f1) fun _ => o1
    · rw [sW_eq e1]
      have z : ¬ lo32 x + offI I + wid (iOp I) ≤ 65536 * eP e := z
      rw [if_neg (by rw [decide_eq_true_iff]; exact z)] at hd
      exact fin hd e1 (mt f1) g15 (envT f1) fun w => absurd w (by decide)
  refine ⟨fun _ => ?_, fun z => absurd (gt (c := 53) (by omega) (by decide)) z⟩
  by_cases h62 : iOp I ≤ 62
  · refine ⟨fun z => absurd z (ngt (c := 62) h62 (by decide)), fun _ => ⟨by decide, vp_in_nI hi (by decide), ?_⟩⟩
    obtain ⟨hml, -⟩ := lgl_me hlg (by omega) (by omega)
    obtain ⟨v, x, r, rfl⟩ := s8 ⟨by omega, h62⟩
    rw [nI_clamp (by omega), hfst (by omega)]
    have hd : dop m I L (v :: x :: r) e = if inA e x (offI I) (wid (iOp I)) = true then (0, L, r, (eG e, stM (eM e) (lo32 x + offI I) (wid (iOp I)) v, eP e)) else (4, L, v :: x :: r, e) := by
      unfold dop
      rw [if_neg (by omega), if_neg (by omega), if_neg (by omega), if_neg (by omega), if_neg (by omega), if_neg (by omega), if_neg (by omega), if_neg (by omega), if_neg h53, if_pos h62]
      rfl
    unfold inA at hd
    refine x_store hop he.2 t1.2.2 t1.2.1 hox (hoff hml) (fun z σ1 e1 f1 g15 o1 g58 => ?_) fun z σ1 e1 f1 g15 => ?_
    · rw [sW_eq e1]
      have z : lo32 x + offI I + wid (iOp I) ≤ 65536 * eP e := z
      rw [if_pos (decide_eq_true z)] at hd
      exact fin hd e1 (f1.mono fun _ _ => sMv2_da) (g15.trans ht) ⟨fun k hk => (f1 _ _ rfl).2.1.trans (t1.1 k hk), g58, (f1 _ _ rfl).1.trans t1.2.2⟩ fun _ => o1
    · rw [sW_eq e1]
      have z : ¬ lo32 x + offI I + wid (iOp I) ≤ 65536 * eP e := z
      rw [if_neg (by rw [decide_eq_true_iff]; exact z)] at hd
      exact fin hd e1 (mt f1) g15 (envT f1) fun w => absurd w (by decide)
  refine ⟨fun _ => ?_, fun z => absurd (gt (c := 62) (by omega) (by decide)) z⟩
  by_cases h66 : iOp I ≤ 66
  · refine ⟨fun z => absurd z (ngt (c := 66) h66 (by decide)), fun _ => ⟨by decide, vp_in_nI hi (by decide), ?_⟩⟩
    rw [nI_clamp (by omega), hfst (by omega)]
    refine x_push hox hl' fun σ1 e1 f1 o1 => ?_
    rw [sW_eq e1]
    refine fin (S2 := iA I :: S) ?_ e1 (mo f1) ((f1 _ _ rfl).1.trans ht) (t1.fo f1) fun _ => o1
    unfold dop
    rw [if_neg (by omega), if_neg (by omega), if_neg (by omega), if_neg (by omega), if_neg (by omega), if_neg (by omega), if_neg (by omega), if_neg (by omega), if_neg h53, if_neg h62, if_neg h63, if_neg h64, if_pos h66]
    rfl
  refine ⟨fun _ => ?_, fun z => absurd (gt (c := 66) (by omega) (by decide)) z⟩
  have hn : isNum (iOp I) := lgl_nu hlg (by omega)
  have hdn := dop_num (m := m) (L := L) (S := S) (e := e) rfl hn
  by_cases z : isU (iOp I)
  · have z' := z
    unfold isU at z'
    rw [if_pos z'] at hdn
    refine x_num (A := S.drop 1 ++ (L.reverse ++ fl fs)) (R := (0, xU (iOp I) (S.headD 0))) hn ht hox (fun _ => ?_) (fun y => absurd z y) fun σ1 e1 f1 g15 o1 => ?_
    · obtain ⟨v, r, rfl, -⟩ := s11 z
      exact ⟨v, rfl, rfl⟩
    · rw [sW_eq e1]
      exact fin hdn e1 (mt f1) g15 (envT f1) fun _ => o1 rfl
  · have z' := z
    unfold isU at z'
    rw [if_neg z'] at hdn
    refine x_num (A := S.drop 2 ++ (L.reverse ++ fl fs)) (R := xB (iOp I) ((S.drop 1).headD 0) (S.headD 0)) hn ht hox (fun y => absurd y z) (fun _ => ?_) fun σ1 e1 f1 g15 o1 => ?_
    · by_cases h70 : 70 ≤ iOp I ∧ iOp I ≤ 79 ∨ 106 ≤ iOp I ∧ iOp I ≤ 120
      · obtain ⟨b, a, r, rfl, -⟩ := s12 h70
        exact ⟨b, a, rfl, rfl⟩
      · obtain ⟨b, a, r, rfl⟩ := s13 (by unfold isNum at hn; omega)
        exact ⟨b, a, rfl, rfl⟩
    · rw [sW_eq e1]
      exact fin hdn e1 (mt f1) g15 (envT f1) fun w => o1 w
end DATX
