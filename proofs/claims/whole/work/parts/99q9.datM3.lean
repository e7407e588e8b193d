/-! an INSTRUCTION that only changes values, the reference: all of them -/
theorem sOm_dmg {c j : Nat} (h : (sOm c j || (Nat.beq c 103 && Nat.beq j 62)) = true) : sDm c j = true := by
  unfold sOm at h
  unfold sDm
  simp only [Bool.or_eq_true, Bool.and_eq_true, Nat.beq_eq] at h ⊢
  omega
theorem s148_dm {c j : Nat} (h : s148 c j = true) : sDm c j = true := by
  unfold s148 at h
  unfold sDm
  simp only [Bool.or_eq_true, Bool.and_eq_true, Nat.beq_eq] at h ⊢
  omega
section DATM3
variable {t : Nat → UInt8} {n b N d f i k p q tk op fr w : Nat} {m : Md} {σ σ' : fkS} {L L2 S S2 A : List Int64} {e e2 : Env} {fs : List Fm} {v x : Int64} {mm : Nat → UInt8} {I : In} {Q : fkS → Prop}
theorem m_mem (hS : SM t n b N m σ) (hml : memL (iOp I)) {al o q1 : Nat} (hU1 : nU t n p = .inl (al, q1)) (hU2 : nU t n q1 = .inl (o, q)) (hA : iA I = lN o) (h40 : σ.1 103 40 = nI p) (h69 : σ.1 103 69 = 0) (hen : envM m e σ) (hp2 : eP e ≤ 2) (hlo : ∀ (k : Nat) (v : Int64), L[k]? = some v → σ.2.1 151 (110 * fs.length + k) = v) (ho : oM σ (S ++ ol fs)) (hs : opSh m f I S) (hQ : ∀ σ', dFin m fs q (dop m I L S e) σ σ' → Q σ') : Cv (d + 3) 311 [.ref 103, .int (nI (iOp I))] σ Q := by
  have hml' := hml
  unfold memL at hml'
  have hl2 := (nU_l hU2).2.1
  have hof : offI I = o := by
    unfold offI
    rw [hA]
    exact hi_lN (by omega)
  obtain ⟨-, -, -, -, -, -, s7, s8, -⟩ := hs
  have hwid : wid (iOp I) ≤ 8 ∧ 0 < wid (iOp I) := by
    unfold wid
    split
    · omega
    split
    · omega
    split <;> omega
  refine S_M_memoryOn ⟨fun _ => ?_, fun z => absurd (nI_le (b := 62) (by omega) (by decide)) z⟩
  refine r_U hS h40 hU1 ?_
  have hS1 := hS.at q1
  refine r_U hS1 rfl hU2 ?_
  have f2 : Fr sDm σ (okM (okM σ q1) q) := (Fr.rf.sI rfl).sI rfl
  have fq : Fr (fun c j => Nat.beq c 103 && Nat.beq j 40) σ (okM (okM σ q1) q) := (Fr.rf.sI rfl).sI rfl
  have k40 : (okM (okM σ q1) q).1 103 40 = nI q := rfl
  have hen2 : envM m e (okM (okM σ q1) q) := hen.fr fq (fun _ => rfl) (fun _ => rfl) rfl
  have ho2 : oM (okM (okM σ q1) q) (S ++ ol fs) := ho.fr fq rfl fun _ => rfl
  have k69 : (okM (okM σ q1) q).1 103 69 = 0 := h69
  have hlo2 : ∀ (k : Nat) (v : Int64), L[k]? = some v → (okM (okM σ q1) q).2.1 151 (110 * fs.length + k) = v := hlo
  have h151 : ∀ j, (okM (okM σ q1) q).2.1 151 j = σ.2.1 151 j := fun _ => rfl
  generalize okM (okM σ q1) q = σ2 at f2 k40 hen2 ho2 k69 hlo2 h151 ⊢
  have hQ2 : ∀ σ', dFin m fs q (dop m I L S e) σ2 σ' → Q σ' := fun σ' h => hQ σ' (h.from f2 h151)
  -- from where the address is at hand
  have adr : ∀ (σ3 : fkS) (x s0 : Int64) (A : List Int64) {P : Prop}, Fr sOm σ2 σ3 → oM σ3 (x :: A) → A.length < 30000 → (∀ σ4, Fr sOm σ2 σ4 → oM σ4 A → lo32 x + o + wid (iOp I) ≤ 65536 * eP e → (iOp I ≤ 53 → Wq 311 (d + 3) 166 [some (.ref 103), some (.int (nI (iOp I))), none, none, none, none, none, none, some (.long (lN (lo32 x + o))), none, some (.int (nI (wid (iOp I)))), some (.long (0 : Int64)), none, some (.int (nI (wid (iOp I)) - (1 : Int32)))] [] σ4 (Qv Q)) ∧ (¬ iOp I ≤ 53 → Wq 311 (d + 3) 119 [some (.ref 103), none, none, none, none, none, some (.long s0), none, some (.long (lN (lo32 x + o))), none, some (.int (nI (wid (iOp I)))), some (.int (nI 0)), none, none] [] σ4 (Qv Q))) → (¬ lo32 x + o + wid (iOp I) ≤ 65536 * eP e → ∀ σ4, Fr sOm σ2 σ4 → Q (sI σ4 103 69 (nI 4))) → Wq 311 (d + 3) 64 [some (.ref 103), some (.int (nI (iOp I))), none, none, some (.long (lN o)), none, none, none, none, none, none, none, none, none] [.long s0] σ3 (Qv Q) := fun σ3 x s0 A P f3 o3 hA3 go no => by
    have hlx : lo32 x < 2 ^ 32 := Nat.mod_lt _ (by decide)
    refine S_M_memoryOn_64 (m_pops o3 fun σ4 f4 o4 => ?_)
    refine (m_bytes hml).mono fun z σ5 hz => ?_
    obtain ⟨r, rfl, hr, hs5⟩ := Qi_s hz
    subst hr
    show _ ∧ _
    rw [hs5]
    have f34 := f3.tr f4
    have k62 : σ4.1 103 62 = nI (eP e) := (f34 _ _ rfl).1.trans hen2.2.2
    rw [k62, and32, nI_l (by omega), nI_l (by omega), lN_add, lN_add, show (65536 : Int64) = lN 65536 from rfl, lN_mul, lg_cmp_le, pk_lLE (by omega) (by omega)]
    refine ⟨fun z => ?_, fun z => ?_⟩
    · obtain ⟨g1, g2⟩ := go σ4 f34 o4 z
      exact pk_lt (iOp I) 54 (fun y => g1 (by omega)) fun y => g2 (by omega)
    · exact m_traps ((f34 _ _ rfl).1.trans k69) (no z σ4 f34)
  have trap : ∀ {σ4 : fkS} {x : Int64}, dop m I L S e = (4, L, S, e) → Fr sOm σ2 σ4 → Q (sI σ4 103 69 (nI 4)) := fun {σ4 x} hd f4 => by
    refine hQ2 _ ?_
    rw [hd]
    exact dFin.mk ((f4.mono fun _ _ => sOm_tm).sI rfl) hen2 sI_ss k40 hlo2 fun y => absurd y (by decide)
  by_cases h53 : iOp I ≤ 53
  · refine ⟨fun _ => ?_, fun z => absurd (nI_lt (b := 54) (by omega) (by decide)) z⟩
    obtain ⟨x, r, rfl⟩ := s7 (by omega)
    have hd : dop m I L (x :: r) e = if inA e x (offI I) (wid (iOp I)) = true then (0, L, ldV (iOp I) (eM e) (lo32 x + offI I) :: r, e) else (4, L, x :: r, e) := by
      unfold dop
      rw [if_neg (by omega), if_neg (by omega), if_neg (by omega), if_neg (by omega), if_neg (by omega), if_neg (by omega), if_neg (by omega), if_neg (by omega), if_pos h53]
      rfl
    unfold inA at hd
    rw [hof] at hd
    have hlA : (r ++ ol fs).length < 30000 := ho2.2.1
    refine adr (P := True) σ2 x 0 (r ++ ol fs) Fr.rf ho2 hlA (fun σ4 f4 o4 z => ⟨fun _ => ?_, fun y => absurd h53 y⟩) fun z σ4 f4 => ?_
    · rw [if_pos (decide_eq_true z)] at hd
      have e0 : (0 : Int64) = ldA (eM e) (lo32 x + o) (wid (iOp I)) 0 := rfl
      rw [e0]
      refine w_ld166 (d := d + 1) (k0 := 0) (mm := eM e) ⟨by omega, h53⟩ hwid.1 (by omega) (fun k hk => (f4 _ _ rfl).1.trans (hen2.2.1 k hk)) o4 hlA (fun σ5 f5 o5 => hQ2 σ5 ?_) (wid (iOp I)) 0 (Nat.zero_add _)
      rw [hd]
      exact dFin.mk ((f4.tr f5).mono fun _ _ => sOm_tm) hen2 (((f4.tr f5) _ _ rfl).1.trans k69) k40 hlo2 fun _ => o5
    · rw [if_neg (by rw [decide_eq_true_iff]; exact z)] at hd
      exact trap (x := 0) hd f4
  · refine ⟨fun z => absurd z (nI_nlt (a := iOp I) (b := 54) (by omega) (by omega)), fun _ => ?_⟩
    obtain ⟨v, x, r, rfl⟩ := s8 (by omega)
    have hd : dop m I L (v :: x :: r) e = if inA e x (offI I) (wid (iOp I)) = true then (0, L, r, (eG e, stM (eM e) (lo32 x + offI I) (wid (iOp I)) v, eP e)) else (4, L, v :: x :: r, e) := by
      unfold dop
      rw [if_neg (by omega), if_neg (by omega), if_neg (by omega), if_neg (by omega), if_neg (by omega), if_neg (by omega), if_neg (by omega), if_neg (by omega), if_neg h53, if_pos (by omega)]
      rfl
    unfold inA at hd
    rw [hof] at hd
    have hlA : (r ++ ol fs).length + 1 + 1 ≤ 30000 := ho2.2.1
    refine m_pops ho2 fun σ3 f3 o3 => ?_
    refine adr (P := True) σ3 x v (r ++ ol fs) f3 o3 (by omega) (fun σ4 f4 o4 z => ⟨fun y => absurd y h53, fun _ => ?_⟩) fun z σ4 f4 => ?_
    · rw [if_pos (decide_eq_true z)] at hd
      refine w_st119 (d := d + 2) (σ0 := σ4) (mm := eM e) hwid.1 (by omega) (fun σ5 f5 g5 => hQ2 σ5 ?_) (wid (iOp I)) 0 σ4 (Nat.zero_add _) Fr.rf fun k hk => ?_
      · rw [hd]
        have f45 : Fr sDm σ2 σ5 := (f4.mono fun _ _ => sOm_dm).tr (f5.mono fun _ _ => s148_dm)
        refine ⟨f45, ⟨fun k hk => ?_, g5, ?_⟩, ?_, fun _ => ⟨o4.fr f5 rfl fun _ => rfl, fun j v hj => ?_, fun j _ => ?_, ?_⟩⟩
        · exact (f5 _ _ rfl).2.1.trans ((f4 _ _ rfl).2.1.trans (hen2.1 k hk))
        · exact (f5 _ _ rfl).1.trans ((f4 _ _ rfl).1.trans hen2.2.2)
        · exact (f5 _ _ rfl).1.trans ((f4 _ _ rfl).1.trans k69)
        · exact (f5 _ _ rfl).2.1.trans ((f4 _ _ rfl).2.1.trans (hlo2 j v hj))
        · exact (f5 _ _ rfl).2.1.trans (f4 _ _ rfl).2.1
        · exact (f5 _ _ rfl).1.trans ((f4 _ _ rfl).1.trans k40)
      · rw [← stM_0]
        exact (f4 _ _ rfl).1.trans (hen2.2.1 k hk)
    · rw [if_neg (by rw [decide_eq_true_iff]; exact z)] at hd
      exact trap (x := 0) hd f4
end DATM3
