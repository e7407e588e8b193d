/-! an INSTRUCTION that only changes values, the reference: variables; all -/
section DATM4
variable {t : Nat → UInt8} {n b N d f i k p q tk op fr w : Nat} {m : Md} {σ σ' : fkS} {L L2 S S2 A : List Int64} {e e2 : Env} {fs : List Fm} {v x : Int64} {mm : Nat → UInt8} {I : In} {Q : fkS → Prop} {C : List In}
theorem m_vari (hop : 32 ≤ iOp I ∧ iOp I ≤ 36) (h69 : σ.1 103 69 = 0) (hen : envM m e σ) (h40 : σ.1 103 40 = nI q) (hlo : ∀ (k : Nat) (v : Int64), L[k]? = some v → σ.2.1 151 (110 * fs.length + k) = v) (ho : oM σ (S ++ ol fs)) (hol : (S ++ ol fs).length < 30000) (hfs : fs.length ≤ 63) (hLl : L.length = loN m f) (hL110 : L.length ≤ 110) (hg : (mdG m).length ≤ 60) (hs : opSh m f I S) (hQ : ∀ σ', dFin m fs q (dop m I L S e) σ σ' → Q σ') : Cv (d + 1) 310 [.ref 103, .int (nI (iOp I)), .int (nI (110 * fs.length)), .int (nI (iB I))] σ Q := by
  obtain ⟨-, -, s3, s4, s5, s6, -⟩ := hs
  have ne : ∀ {c : Nat}, iOp I ≠ c → c < 256 → ¬ nI (iOp I) = nI c := fun a b z => a ((nI_eq (by omega) (by omega)).mp z)
  have mk : ∀ {σ' : fkS} {S2 : List Int64}, dop m I L S e = (0, L, S2, e) → Fr sOm σ σ' → oM σ' (S2 ++ ol fs) → Q σ' := fun hd f1 o1 => hQ _ (by
    rw [hd]
    exact dFin.mk (f1.mono fun _ _ => sOm_tm) hen ((f1 _ _ rfl).1.trans h69) h40 hlo fun _ => o1)
  have mkL : ∀ {σ1 : fkS} {S2 : List Int64} {w : Int64}, dop m I L S e = (0, L.set (iB I) w, S2, e) → iB I < L.length → Fr sOm σ σ1 → oM σ1 (S2 ++ ol fs) → Q (sL σ1 151 (110 * fs.length + iB I) w) := fun {σ1 S2 w} hd hb f1 o1 => hQ _ (by
    rw [hd]
    have fL : Fr (fun c _ => Nat.beq c 151) σ1 (sL σ1 151 (110 * fs.length + iB I) w) := Fr.rf.sL rfl
    refine ⟨(f1.mono fun _ _ => sOm_dm).sL rfl, (hen.fo f1).fr fL (fun _ => rfl) (fun _ => rfl) rfl, (f1 _ _ rfl).1.trans h69, fun _ => ⟨o1.fr fL rfl fun _ => rfl, fun j v hj => ?_, fun j hj => ?_, (f1 _ _ rfl).1.trans h40⟩⟩
    · rw [sL3]
      by_cases z : j = iB I
      · subst z
        rw [if_pos rfl]
        have hj2 : (L.set (iB I) w)[iB I]? = some v := hj
        rw [List.getElem?_set_self hb] at hj2
        exact Option.some.inj hj2
      · rw [if_neg (by omega)]
        have hj2 : (L.set (iB I) w)[j]? = some v := hj
        rw [List.getElem?_set_ne (fun y => z y.symm)] at hj2
        exact (f1 _ _ rfl).2.1.trans (hlo j v hj2)
    · rw [sL3, if_neg (by omega)]
      exact (f1 _ _ rfl).2.1)
  by_cases h32 : iOp I = 32
  · refine S_M_variable ⟨fun z => absurd (by rw [h32]; rfl) z, fun _ => ?_⟩
    have hb := s3 (by omega)
    have hk : L[iB I]? = some L[iB I] := List.getElem?_eq_getElem (by omega)
    rw [nI_add, nI_clamp (n := 110 * fs.length + iB I) (by omega), hlo _ _ hk]
    refine ⟨vp_in_nI (by omega) (by decide), m_pushes ho hol fun σ1 f1 o1 => mk (S2 := L[iB I] :: S) ?_ f1 o1⟩
    unfold dop
    rw [h32]
    show (0, L, (L[iB I]?).getD 0 :: S, e) = _
    rw [hk]
    rfl
  refine S_M_variable ⟨fun _ => ?_, fun z => absurd z (ne (c := 32) h32 (by decide))⟩
  by_cases h33 : iOp I = 33
  · refine ⟨fun z => absurd (by rw [h33]; rfl) z, fun _ => ?_⟩
    have hb := s3 (by omega)
    obtain ⟨v, r, rfl⟩ := s4 (by omega)
    refine m_pops ho fun σ1 f1 o1 => ?_
    rw [nI_add, nI_clamp (n := 110 * fs.length + iB I) (by omega)]
    exact ⟨vp_in_nI (by omega) (by decide), mkL (S2 := r) (by unfold dop; rw [h33]; rfl) (by omega) f1 o1⟩
  refine ⟨fun _ => ?_, fun z => absurd z (ne (c := 33) h33 (by decide))⟩
  by_cases h34 : iOp I = 34
  · refine ⟨fun z => absurd (by rw [h34]; rfl) z, fun _ => ?_⟩
    have hb := s3 (by omega)
    obtain ⟨v, r, rfl⟩ := s4 (by omega)
    have ho2 : oM σ (v :: (r ++ ol fs)) := ho
    obtain ⟨h1, h2, h3⟩ := ho2.sp
    rw [nI_add, nI_clamp (n := 110 * fs.length + iB I) (by omega), h1, nI_clamp (by omega), h3]
    exact ⟨vp_in_nI (by omega) (by decide), vp_in_nI (by omega) (by decide), mkL (S2 := v :: r) (by unfold dop; rw [h34]; rfl) (by omega) Fr.rf ho⟩
  refine ⟨fun _ => ?_, fun z => absurd z (ne (c := 34) h34 (by decide))⟩
  have hb := s5 (by omega)
  by_cases h35 : iOp I = 35
  · refine ⟨fun z => absurd (by rw [h35]; rfl) z, fun _ => ?_⟩
    rw [nI_clamp (by omega), hen.1 _ hb]
    exact ⟨vp_in_nI (by omega) (by decide), m_pushes ho hol fun σ1 f1 o1 => mk (S2 := eG e (iB I) :: S) (by unfold dop; rw [h35]; rfl) f1 o1⟩
  refine ⟨fun _ => ?_, fun z => absurd z (ne (c := 35) h35 (by decide))⟩
  have h36 : iOp I = 36 := by omega
  obtain ⟨v, r, rfl⟩ := s6 h36
  refine m_pops ho fun σ1 f1 o1 => ?_
  rw [nI_clamp (by omega)]
  refine ⟨vp_in_nI (by omega) (by decide), hQ _ ?_⟩
  have hd : dop m I L (v :: r) e = (0, L, r, (updG (eG e) (iB I) v, eM e, eP e)) := by unfold dop; rw [h36]; rfl
  rw [hd]
  have g1 := hen.fo f1
  have fL : Fr (fun c _ => Nat.beq c 146) σ1 (sL σ1 146 (iB I) v) := Fr.rf.sL rfl
  refine ⟨(f1.mono fun _ _ => sOm_dm).sL rfl, ⟨fun k hk => ?_, g1.2.1, g1.2.2⟩, (f1 _ _ rfl).1.trans h69, fun _ => ⟨o1.fr fL rfl fun _ => rfl, fun j w hj => (f1 _ _ rfl).2.1.trans (hlo j w hj), fun j _ => (f1 _ _ rfl).2.1, (f1 _ _ rfl).1.trans h40⟩⟩
  rw [sL3]
  show _ = updG (eG e) (iB I) v k
  unfold updG
  by_cases z : k = iB I
  · rw [if_pos z, if_pos z]
  · rw [if_neg z, if_neg z]
    exact g1.1 k hk
theorem m_data (hS : SM t n b N m σ) (h : PQ t m ((f, i, L, S) :: fs, [], e, tk, 0, false) (I.1 + 1) σ) (hp : pI t n C I.1 = .inl (I, q)) (hd : iOp I = 1 ∨ 18 ≤ iOp I) (hs : opSh m f I S) (he : evOk m e) (hLl : L.length = loN m f) (hL110 : L.length ≤ 110) (hfs : fs.length ≤ 63) (hol : (S ++ ol fs).length < 30000) (hQ : ∀ σ', dFin m fs q (dop m I L S e) σ σ' → Q σ') : Cv (d + 5) 307 [.ref 103, .int (nI (iOp I)), .int (nI (110 * fs.length))] σ Q := by
  obtain ⟨hops, hlg⟩ := pI_ops hp
  obtain ⟨-, o16, -, o63, o65, omem, -, -, ono⟩ := hops
  have hmx := hS.1.mx
  have h69 : σ.1 103 69 = 0 := h.2.2.1
  have hen : envM m e σ := h.1
  have h40 := h.at
  have hlo := h.lo
  have ho := h.ox
  have hpl := pI_l hp
  have hop : iOp I < 256 := by
    have := (t I.1).toNat_lt
    rw [hpl.2.1]
    exact this
  have hn : I.1 < n := by omega
  have ne : ∀ {c : Nat}, iOp I ≠ c → c < 256 → ¬ nI (iOp I) = nI c := fun a b z => a ((nI_eq (by omega) (by omega)).mp z)
  have mk : ∀ {σ1 σ' : fkS} {S2 : List Int64}, dop m I L S e = (0, L, S2, e) → Fr (fun c j => Nat.beq c 103 && Nat.beq j 40) σ σ1 → σ1.1 103 40 = nI q → (∀ j, σ1.2.1 151 j = σ.2.1 151 j) → Fr sOm σ1 σ' → oM σ' (S2 ++ ol fs) → Q σ' := fun {σ1 σ' S2} hd f0 k40 k151 f1 o1 => hQ _ (by
    rw [hd]
    have fd : Fr sDm σ σ1 := f0.mono fun c j h => by
      unfold sDm
      have h : (Nat.beq c 103 && Nat.beq j 40) = true := h
      simp only [Bool.or_eq_true, Bool.and_eq_true, Nat.beq_eq] at h ⊢
      omega
    refine dFin.from fd k151 (dFin.mk (f1.mono fun _ _ => sOm_tm) (hen.fr f0 (fun _ => rfl) (fun _ => rfl) rfl) ?_ k40 (fun j v hj => (k151 _).trans (hlo j v hj)) fun _ => o1)
    exact (f1 _ _ rfl).1.trans ((f0 _ _ rfl).1.trans h69))
  rcases hd with h1 | h18
  · rw [h1]
    have hq := ono (.inr (.inl h1))
    subst hq
    exact S_M_does ⟨fun _ => ⟨fun z => absurd rfl z, fun _ => mk (S2 := S) (by unfold dop; rw [h1]; rfl) Fr.rf h40 (fun _ => rfl) Fr.rf ho⟩, fun z => absurd z (by decide)⟩
  by_cases h66 : 66 < iOp I
  · have hn2 := lgl_nu hlg h66
    have hq := ono (.inr (.inr (.inr (.inr (.inr (.inr (.inr hn2)))))))
    subst hq
    exact m_num1 hn2 h69 hen h40 hlo ho rfl hs hQ
  have pre : ((¬ nI (iOp I) = (26 : Int32) → ((¬ nI (iOp I) = (27 : Int32) → (((36 : Int32) < nI (iOp I) → (((64 : Int32) < nI (iOp I) → ((¬ nI (iOp I) = (65 : Int32) → (nI (iOp I) = (66 : Int32) → (Cj (d + 4) 257 [.ref 103, .int (64 : Int32)] σ (fun x4 σ3 => (Cv (d + 4) 297 [.ref 103, .long x4] σ3 (fun σ5 => Qv Q none σ5)))))) ∧ (nI (iOp I) = (65 : Int32) → (Cj (d + 4) 257 [.ref 103, .int (32 : Int32)] σ (fun x7 σ6 => (Cv (d + 4) 297 [.ref 103, .long x7] σ6 (fun σ8 => Qv Q none σ8))))))) ∧ (¬ (64 : Int32) < nI (iOp I) → (Cv (d + 4) 311 [.ref 103, .int (nI (iOp I))] σ (fun σ9 => Qv Q none σ9))))) ∧ (¬ (36 : Int32) < nI (iOp I) → (Cj (d + 4) 246 [.ref 103] σ (fun x11 σ10 => (Cv (d + 4) 310 [.ref 103, .int (nI (iOp I)), .int (nI (110 * fs.length)), .int x11.toInt32] σ10 (fun σ12 => Qv Q none σ12))))))) ∧ (nI (iOp I) = (27 : Int32) → (Ci (d + 4) 305 [.ref 103] σ (fun x14 σ13 => ((¬ x14 = 0 → Wq 307 (d + 5) 86 [some (.ref 103), none, none, none, none, none] [.int (0 : Int32)] σ13 (Qv Q)) ∧ (x14 = 0 → Wq 307 (d + 5) 86 [some (.ref 103), none, none, none, none, none] [.int (1 : Int32)] σ13 (Qv Q)))))))) ∧ (nI (iOp I) = (26 : Int32) → Qv Q none (sI σ 103 66 ((σ.1 103 66) - (1 : Int32))))) → Cv (d + 5) 307 [.ref 103, .int (nI (iOp I)), .int (nI (110 * fs.length))] σ Q := fun hh => by
    obtain ⟨g26, g26'⟩ := hh
    refine S_M_does ⟨fun _ => ⟨fun _ => ⟨fun _ => ⟨fun _ => ⟨fun z26 => ?_, g26'⟩, fun z => absurd z (ne (c := 17) (by omega) (by decide))⟩, fun z => absurd z (ne (c := 16) (by omega) (by decide))⟩, fun z => absurd z (ne (c := 1) (by omega) (by decide))⟩, fun z => absurd z (ne (c := 0) (by omega) (by decide))⟩
    obtain ⟨g27, g27'⟩ := g26 z26
    refine ⟨fun z27 => ?_, g27'⟩
    obtain ⟨g36, g36'⟩ := g27 z27
    refine ⟨fun z36 => ?_, g36'⟩
    obtain ⟨g64, g64'⟩ := g36 z36
    refine ⟨fun z64 => ?_, g64'⟩
    obtain ⟨g65, g65'⟩ := g64 z64
    refine ⟨fun z65 => ⟨fun z66 => ?_, g65 z65⟩, g65'⟩
    have h64 : 64 < iOp I := (nI_ltI (a := 64) (by decide) (by omega)).mp z64
    exact absurd (show iOp I ≠ 65 ∧ iOp I ≠ 66 from ⟨fun y => z65 (by rw [y]; rfl), fun y => z66 (by rw [y]; rfl)⟩) (by omega)
  refine pre ⟨fun z26 => ⟨fun z27 => ⟨fun z36 => ⟨fun z64 => ⟨fun z65 => fun z66 => ?_, fun z65 => ?_⟩, fun z64 => ?_⟩, fun z36 => ?_⟩, fun z27 => ?_⟩, fun z26 => ?_⟩
  · have h66 : iOp I = 66 := (nI_eq (b := 66) (by omega) (by decide)).mp z66
    have hG := o65 (.inr h66)
    rw [decide_eq_false (show ¬ iOp I = 65 by omega)] at hG
    exact r_G (W := false) hS h40 (by omega) hG (m_pushes (A := S ++ ol fs) (ho.fr (S := fun c j => Nat.beq c 103 && Nat.beq j 40) (Fr.rf.sI rfl) rfl fun _ => rfl) hol fun σ1 f1 o1 => mk (S2 := iA I :: S) (by unfold dop; rw [h66]; rfl) (Fr.rf.sI rfl) rfl (fun _ => rfl) f1 o1)
  · have h65 : iOp I = 65 := (nI_eq (b := 65) (by omega) (by decide)).mp z65
    have hG := o65 (.inl h65)
    rw [decide_eq_true h65] at hG
    exact r_G (W := true) hS h40 (by omega) hG (m_pushes (A := S ++ ol fs) (ho.fr (S := fun c j => Nat.beq c 103 && Nat.beq j 40) (Fr.rf.sI rfl) rfl fun _ => rfl) hol fun σ1 f1 o1 => mk (S2 := iA I :: S) (by unfold dop; rw [h65]; rfl) (Fr.rf.sI rfl) rfl (fun _ => rfl) f1 o1)
  · have h64 : ¬ 64 < iOp I := fun u => z64 ((nI_ltI (a := 64) (by decide) (by omega)).mpr u)
    have h36 : 36 < iOp I := (nI_ltI (a := 36) (by decide) (by omega)).mp z36
    by_cases h62 : iOp I ≤ 62
    · obtain ⟨hml, -⟩ := lgl_me hlg h36 h62
      obtain ⟨al, o, q1, w1, w2, -, w4⟩ := omem hml
      exact m_mem hS hml w1 w2 w4 h40 h69 hen he.2 hlo ho hs hQ
    · have hX := o63 (by omega)
      have hq : q = I.1 + 1 + 1 := by
        unfold rX at hX
        split at hX
        · cases hX
          rfl
        · cases hX
      obtain ⟨-, -, -, -, -, -, -, -, s9, s10, -⟩ := id hs
      refine S_M_memoryOn ⟨fun z => absurd z (nI_ge (b := iOp I) (a := 62) (by omega) (by omega)), fun _ => ?_⟩
      rw [h40, nI_1, ← hq]
      have fq : Fr (fun c j => Nat.beq c 103 && Nat.beq j 40) σ (sI σ 103 40 (nI q)) := Fr.rf.sI rfl
      by_cases h63 : iOp I = 63
      · refine ⟨fun z => absurd (by rw [h63]; rfl) z, fun _ => ?_⟩
        have hp2 := he.2
        rw [hen.2.2, nI_l (by omega)]
        exact m_pushes (A := S ++ ol fs) (ho.fr fq rfl fun _ => rfl) hol fun σ1 f1 o1 => mk (S2 := lN (eP e) :: S) (by unfold dop; rw [h63]; rfl) fq sI_ss (fun _ => rfl) f1 o1
      · have h64' : iOp I = 64 := by omega
        refine ⟨fun _ => ?_, fun z => absurd z (ne (c := 63) h63 (by decide))⟩
        obtain ⟨v, r, rfl⟩ := s9 h64'
        refine m_grow (hS.fr (fq.mono fun c j h => by
          unfold sRi
          have h : (Nat.beq c 103 && Nat.beq j 40) = true := h
          simp only [Bool.or_eq_true, Bool.and_eq_true, Nat.beq_eq, Nat.ble_eq] at h ⊢
          omega)) (s10 (by omega)) he.2 hen.2.2 (ho.fr fq rfl fun _ => rfl : oM _ (v :: (r ++ ol fs))) fun σ1 f1 ga gb => hQ σ1 ?_
        have fd : Fr sDm σ σ1 := (Fr.rf.sI rfl).tr (f1.mono fun _ _ => sOm_dmg)
        have hd : dop m I L (v :: r) e = if eP e + lo32 v ≤ mxP m then (0, L, lN (eP e) :: r, (eG e, eM e, eP e + lo32 v)) else (0, L, -1 :: r, e) := by unfold dop; rw [h64']; rfl
        by_cases z : eP e + lo32 v ≤ mxP m
        · rw [if_pos z] at hd
          rw [hd]
          exact ⟨fd, ⟨fun k hk => (f1 _ _ rfl).2.1.trans (hen.1 k hk), fun k hk => (f1 _ _ rfl).1.trans (hen.2.1 k hk), (ga z).1⟩, (f1 _ _ rfl).1.trans h69, fun _ => ⟨(ga z).2, fun j w hj => (f1 _ _ rfl).2.1.trans (hlo j w hj), fun j _ => (f1 _ _ rfl).2.1, (f1 _ _ rfl).1⟩⟩
        · rw [if_neg z] at hd
          rw [hd]
          exact ⟨fd, ⟨fun k hk => (f1 _ _ rfl).2.1.trans (hen.1 k hk), fun k hk => (f1 _ _ rfl).1.trans (hen.2.1 k hk), (gb z).1⟩, (f1 _ _ rfl).1.trans h69, fun _ => ⟨(gb z).2, fun j w hj => (f1 _ _ rfl).2.1.trans (hlo j w hj), fun j _ => (f1 _ _ rfl).2.1, (f1 _ _ rfl).1⟩⟩
  · have h36 : iOp I ≤ 36 := Nat.not_lt.mp fun u => z36 ((nI_ltI (a := 36) (by decide) (by omega)).mpr u)
    have n26 : iOp I ≠ 26 := fun y => z26 (by rw [y]; rfl)
    have n27 : iOp I ≠ 27 := fun y => z27 (by rw [y]; rfl)
    have h32 : 32 ≤ iOp I ∧ iOp I ≤ 36 := by
      rcases lgl_lo hlg h18 h36 with y | y | y
      · exact absurd y n26
      · exact absurd y n27
      · exact y
    have hU := o16 (.inr h32)
    refine r_U hS h40 hU ?_
    rw [lN_i]
    have fq : Fr (fun c j => Nat.beq c 103 && Nat.beq j 40) σ (okM σ q) := Fr.rf.sI rfl
    exact m_vari (f := f) h32 h69 (hen.fr fq (fun _ => rfl) (fun _ => rfl) rfl) rfl hlo (ho.fr fq rfl fun _ => rfl) hol hfs hLl hL110 hmx.2.2 hs fun σ1 h1 => hQ σ1 (h1.from (Fr.rf.sI rfl) fun _ => rfl)
  · have h27 : iOp I = 27 := (nI_eq (b := 27) (by omega) (by decide)).mp z27
    have hq := ono (.inr (.inr (.inr (.inr (.inr (.inr (.inl h27)))))))
    subst hq
    obtain ⟨c, b, a, r, rfl⟩ := hs.2.1 h27
    have hd : dop m I L (c :: b :: a :: r) e = (0, L, (if c.toInt32 = 0 then b else a) :: r, e) := by unfold dop; rw [h27]; rfl
    refine m_popInt (A := b :: a :: (r ++ ol fs)) ho fun σ1 f1 o1 => ?_
    refine ⟨fun z => S_M_does_86 (m_pops o1 fun σ2 f2 o2 => ⟨fun _ => ?_, fun y => absurd rfl y⟩), fun z => S_M_does_86 (m_pops o1 fun σ2 f2 o2 => ⟨fun y => absurd y (by decide), fun _ => ?_⟩)⟩
    · rw [if_neg z] at hd
      exact mk hd Fr.rf h40 (fun _ => rfl) (f1.tr f2) o2
    · rw [if_pos z] at hd
      obtain ⟨h1, h2, h3⟩ := o2.sp
      obtain ⟨f3, o3⟩ := o2.set (w := b)
      rw [h1, nI_clamp (by omega)]
      exact ⟨vp_in_nI (by omega) (by decide), mk hd Fr.rf h40 (fun _ => rfl) ((f1.tr f2).tr f3) o3⟩
  · have h26 : iOp I = 26 := (nI_eq (b := 26) (by omega) (by decide)).mp z26
    have hq := ono (.inr (.inr (.inr (.inr (.inr (.inl h26))))))
    subst hq
    obtain ⟨v, r, rfl⟩ := hs.1 h26
    have ho2 : oM σ (v :: (r ++ ol fs)) := ho
    rw [ho2.sp.1]
    exact mk (S2 := r) (by unfold dop; rw [h26]; rfl) Fr.rf h40 (fun _ => rfl) (Fr.rf.sI rfl) (ho2.cut (A := [v]) sI_ss fun _ _ => rfl)
end DATM4
