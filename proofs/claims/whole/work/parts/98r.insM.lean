/-! THE JUDGE OF A FUNCTION: one INSTRUCTION; the reference -/
theorem nx_of {C : List In} {i o x : Nat} {I : In} {r : List (Nat × Nat)} (hw : sk C C.length = []) (hI : C[i]? = some I) (h11 : iOp I = 11) (hs : sk C i = (o, x) :: r) : (opC C (nx C o) = 11 ↔ x = o) := by
  have hil := get_lt hI
  have hmem : (o, x) ∈ sk C i := by rw [hs]; exact List.mem_cons_self
  obtain ⟨⟨j, hj, hj2⟩, hk⟩ := sk_kind (by omega) hmem
  have hcl := clo_open hw hj hj2
  obtain ⟨n1, n2, o2, r2, n3⟩ := nx_get hcl
  have hN : C[nx C o]? = some C[nx C o] := List.getElem?_eq_getElem n1
  have eop := opC_get hN
  constructor
  · intro h
    rw [eop] at h
    have hm2 : (o2, o) ∈ sk C (nx C o) := by rw [n3]; exact List.mem_cons_self
    obtain ⟨-, hk2⟩ := sk_kind (by omega) hm2
    have ho2 : o = o2 := by
      rcases hk2 with z | ⟨j2, z, z2⟩
      · exact z
      · rw [hj] at z
        cases z
        omega
    subst ho2
    rcases Nat.lt_trichotomy (nx C o) i with z | z | z
    · exact absurd rfl (sk_goneO hN h n3 z hmem)
    · rw [z, hs] at n3
      exact congrArg (fun a => a.2) (List.cons.inj n3).1
    · exact absurd rfl (sk_goneO hI h11 hs z hm2)
  · intro h
    subst h
    rw [eop] at n2 ⊢
    have hm2 : (o2, x) ∈ sk C (nx C x) := by rw [n3]; exact List.mem_cons_self
    rcases Nat.lt_trichotomy (nx C x) i with z | z | z
    · exact absurd rfl (sk_gone hN n2 n3 z hmem)
    · have := hI
      rw [← z, hN] at this
      cases this
      exact h11
    · exact absurd rfl (sk_gone hI (.inr h11) hs z hm2)
section INSM
variable {t : Nat → UInt8} {n b d f p q i : Nat} {m : Md} {C : List In} {J K J1 : JS} {σ σ0 : fkS} {I : In}
theorem skJ.len (h : skJ C i J) : (jB J).length = (sk C i).length + 1 := by
  have : (jO J).length = (jB J).length := List.length_map ..
  rw [← this, h]
  unfold skO2
  rw [List.length_cons, List.length_map, List.length_reverse]
theorem skJ.top {bk : Bk} (h : skJ C i J) (hb : jTop J = some bk) : bkO bk = match sk C i with
    | [] => none
    | a :: _ => some a.1 := by
  obtain ⟨L, hL, hb2⟩ := top_get hb
  have h1 : (jO J)[L]? = some (bkO bk) := by
    unfold jO
    rw [List.getElem?_map, hb2]
    rfl
  have hl := h.len
  rw [h] at h1
  cases hs : sk C i with
  | nil =>
    rw [hs] at h1 hl
    have : L = 0 := by
      have : ([] : List (Nat × Nat)).length = 0 := rfl
      omega
    subst this
    exact (Option.some.inj h1).symm
  | cons a r =>
    rw [hs] at h1 hl
    have hLr : L = r.length + 1 := by
      rw [List.length_cons] at hl
      omega
    subst hLr
    unfold skO2 at h1
    rw [List.reverse_cons, List.map_append, List.getElem?_cons_succ, List.getElem?_append_right (by rw [List.length_map, List.length_reverse]; omega), List.length_map, List.length_reverse, Nat.sub_self] at h1
    exact (Option.some.inj h1).symm
theorem w_j97 (hI : C[i]? = some I) (hbl : iB I < 200) (hi : i < 4000) (h24 : 2 ≤ iOp I ∧ iOp I ≤ 4) (hops : opsR t n I.1 I q) (hB : (jB J1).length < 22) (h : MS t n b C J1 (I.1 + 1) σ) (f0 : Fr sMJ σ0 σ) : Wq 271 (d + 3) 97 [some (.ref 103), some (.int (nI (iOp I))), some (.int (nI I.1)), none, none, none] [] σ (Qv fun σ' => MO t n b C (jOpen (some i) (iB I) J1) q σ0 σ') := by
  obtain ⟨hq, hpn, hbt⟩ := hops.2.2.2.2.2.2.2.1 h24
  subst hq
  have hin : iOp I < 2 ^ 31 := by omega
  have htl := (t (I.1 + 1)).toNat_lt
  have hpp : pI32 C (some i) = nI I.1 := congrArg nI (posOf_get hI)
  have hlt : iB I < 200 → ∀ nd, nd = bNeed C (some i, (jT J1).length, iB I, false) → ∀ σ1, MS t n b C J1 (I.1 + 1 + 1) σ1 → Fr sMJ σ0 σ1 → Cv (d + 2) 270 [.ref 103, .int (nI I.1), .int (nI (iB I)), .int (nI nd)] σ1 (fun σ3 => Qv (fun σ' => MO t n b C (jOpen (some i) (iB I) J1) (I.1 + 2) σ0 σ') none σ3) := fun hb nd hnd σ1 h1 f1 => by
    have := m_jopen (d := d + 2) (o := some i) h1.1 hb (fun k hk => by cases hk; exact hi) hB hnd
    rw [hpp] at this
    refine this.mono fun x σ2 hx => ?_
    obtain ⟨rfl, f2, h2⟩ := Qv_s hx
    exact MO.of (f1.tr f2.mg) (h1.go f2 h2)
  have hnd : ∀ ty, bNeed C (some i, (jT J1).length, ty, false) = if iOp I = 3 then 0 else ty := fun ty => by
    unfold bNeed jLoop
    show (if decide (opC C i = 3) = true then 0 else ty) = _
    rw [opC_get hI]
    by_cases z : iOp I = 3
    · rw [if_pos z, decide_eq_true z, if_pos rfl]
    · rw [if_neg z, decide_eq_false z, if_neg Bool.false_ne_true]
  refine S_M_judges_97 (sN h hpn f0 fun σ1 f1 h1 => ?_)
  show _ ∧ _
  refine And.comm.mp (pk_eq (t (I.1 + 1)).toNat 64 (fun z => ?_) fun z => ?_)
  · have hb0 : iB I = 0 := by rw [hbt, if_pos z]
    have g := hlt hbl 0 (by rw [hnd, hb0]; split <;> rfl) σ1 h1 f1
    rw [hb0] at g ⊢
    exact ⟨fun _ => g, fun _ => g⟩
  · have hb0 : iB I = (t (I.1 + 1)).toNat := by rw [hbt, if_neg z]
    rw [← hb0]
    refine And.comm.mp (pk_eq (iOp I) 3 (fun y => hlt hbl 0 (by rw [hnd, if_pos y]) σ1 h1 f1) fun y => hlt hbl (iB I) (by rw [hnd, if_neg y]) σ1 h1 f1)
/-- one INSTRUCTION is judged -/
theorem m_judges (hl : lenM m) (hf : fcM t n m) (hT : vTy m = true) (hK : KM t n b m σ) (hF : FX m f) (h55 : σ.1 103 55 = nI f) (h56 : σ.1 103 56 = nI (60 * b + fnTy m f)) (hC : fC (mdC m).2) (hC4 : (mdC m).2.length ≤ 4000) (hI : (mdC m).2[i]? = some I) (hR : pI t n ((mdC m).2.take i) I.1 = .inl (I, q)) (hsk : skJ (mdC m).2 i J) (h : MS t n b (mdC m).2 J (I.1 + 1) σ) (hl4 : (jT J).length ≤ 4000) :
    Cv (d + 5) 271 [.ref 103, .int (nI (iOp I)), .int (nI I.1)] σ (fun σ' => MO t n b (mdC m).2 (jI t m f i I J) q σ σ') := by
  have h0 := hsk.pos
  have hil := get_lt hI
  have hfI : fI I := hC.1 I (List.mem_of_getElem? hI)
  obtain ⟨hops, hlg⟩ := pI_ops hR
  have hIn : I.1 < n := by have := pI_l hR; omega
  have hlg2 := hlg
  unfold lgl noOp isNum memL at hlg2
  have hin : (nI (iOp I)).toInt = (iOp I : Int) := nI_toInt (by omega)
  have ops1 : opsR t n (I.1 + 1 - 1) I q := hops
  have qno : noOp (iOp I) → q = I.1 + 1 := hops.2.2.2.2.2.2.2.2
  have ep : I.1 + 1 - 1 + 1 = I.1 + 1 := rfl
  have more : 16 ≤ iOp I → Cv (d + 4) 281 [.ref 103, .int (nI (iOp I))] σ (fun σ1 => Qv (fun σ' => MO t n b (mdC m).2 (jI t m f i I J) q σ σ') none σ1) := fun z => m_more hl hf hT hK hF h55 h56 ops1 (by omega) hlg z h hl4 h0
  have hB20 := hC.2.2 i
  have hBl := hsk.len
  have hB22 : 2 ≤ iOp I ∧ iOp I ≤ 4 → (jB J).length < 22 := fun z => by omega
  have stE : ∀ op : Nat, op ≤ 11 → iOp I = op → jI t m f i I J = jStr (mdC m).2 i op (iB I) J := fun op h1 h2 => by
    unfold jI
    rw [h2, if_pos h1]
  refine S_M_judges ?_
  rw [hin]
  refine ⟨fun z => more (by omega), fun z => ?_, fun z => ?_, fun z => ?_, fun z => ?_, fun z => ?_, fun z => ?_, fun z => absurd hlg2 (by omega), fun z => absurd hlg2 (by omega), fun z => absurd hlg2 (by omega), fun z => absurd hlg2 (by omega), fun z => absurd hlg2 (by omega), fun z => ?_, fun z => ?_, fun z => ?_, fun z => ?_, fun z => ?_, trivial⟩
  · have z : iOp I = 0 := by omega
    rw [stE 0 (by decide) z, qno (.inl z)]
    exact sDead h hl4 h0 Fr.rf fun σ1 f1 h1 => MO.of f1 h1
  · have z : iOp I = 1 := by omega
    rw [stE 1 (by decide) z, qno (.inr (.inl z))]
    exact MO.of Fr.rf h
  · have z : iOp I = 2 := by omega
    have e : jI t m f i I J = jOpen (some i) (iB I) J := stE 2 (by decide) z
    rw [e]
    exact ⟨fun _ => w_j97 (d := d + 2) hI (hfI.2.1 (by omega)) (by omega) (by omega) hops (hB22 (by omega)) h Fr.rf, fun y => absurd (show iOp I = 4 from (nI_eq (b := 4) (by omega) (by decide)).mp y) (by omega)⟩
  · have z : iOp I = 3 := by omega
    have e : jI t m f i I J = jOpen (some i) (iB I) J := stE 3 (by decide) z
    rw [e]
    exact ⟨fun _ => w_j97 (d := d + 2) hI (hfI.2.1 (by omega)) (by omega) (by omega) hops (hB22 (by omega)) h Fr.rf, fun y => absurd (show iOp I = 4 from (nI_eq (b := 4) (by omega) (by decide)).mp y) (by omega)⟩
  · have z : iOp I = 4 := by omega
    have e : jI t m f i I J = jOpen (some i) (iB I) (jPop 127 J).2 := stE 4 (by decide) z
    rw [e]
    refine ⟨fun y => absurd (show nI (iOp I) = 4 by rw [z]; rfl) y, fun _ => sPop (due := 127) (d := d + 3) h (by decide) (by decide) hl4 h0 Fr.rf fun σ1 f1 h1 => ?_⟩
    exact w_j97 (d := d + 2) hI (hfI.2.1 (by omega)) (by omega) (by omega) hops (by rw [jPop_B]; exact hB22 (by omega)) h1 f1
  · have z : iOp I = 5 := by omega
    have e : jI t m f i I J = jElse J := stE 5 (by decide) z
    rw [e, qno (.inr (.inr (.inl z)))]
    refine (m_else (d := d + 2) h.1 hl4 h0).mono fun x σ1 hx => ?_
    obtain ⟨rfl, hv, f1, g1⟩ := Qv_s hx
    exact ⟨hv, MO.gd f1.mg g1 (h.2.1.fr f1 ⟨rfl, rfl, rfl, fun _ => rfl⟩) ((f1 103 42 rfl).1.trans h.2.2)⟩
  · have z : iOp I = 11 := by omega
    have e : jI t m f i I J = jBlk (eBad (mdC m).2 J) J := stE 11 (by decide) z
    have hw : sk (mdC m).2 (mdC m).2.length = [] := hK.2.2.1.2.2.2.2.2.2.2.2.2.2.2
    have hpos : posI t (mdC m).2 4000 := hK.2.2.1.2.2.2.2.2.2.2.2.2.2.1
    have hRC : RCd (mdC m).2 b σ := hK.2.2.1.2.2.2.2.2.2.2.2.1
    rw [e, qno (.inr (.inr (.inr (.inl z))))]
    refine (m_ends (d := d + 1) (b := b) (bad := eBad (mdC m).2 J) h.1 hl4 h0 hK.1 hK.2.1 (fun bk hb ho => ?_) fun bk o hb ho => ?_).mono fun x σ1 hx => ?_
    · unfold eBad
      rw [hb]
      show bBad _ bk = false
      unfold bBad
      rw [ho]
    · have eb : eBad (mdC m).2 J = bBad (mdC m).2 bk := by unfold eBad; rw [hb]
      have ht := hsk.top hb
      rw [ho] at ht
      cases hs : sk (mdC m).2 i with
      | nil =>
        rw [hs] at ht
        cases ht
      | cons a r =>
        obtain ⟨o', x⟩ := a
        rw [hs] at ht
        have : o' = o := (Option.some.inj ht).symm
        subst this
        have hmem : (o', x) ∈ sk (mdC m).2 i := by rw [hs]; exact List.mem_cons_self
        obtain ⟨⟨j, hj, hj2⟩, -⟩ := sk_kind (by omega) hmem
        have hoi : o' < i := by have := skO_lt (sk_O (mdC m).2 i) hmem; omega
        obtain ⟨p1, p2⟩ := hpos.1 o' j hj
        have p3 := hpos.2 o' i j I hoi hj hI
        obtain ⟨r1, r2⟩ := hRC i I o' x r hI z hs
        have hnx := nx_of hw hI z hs
        rw [eb, posOf_get hj] at *
        unfold bBad
        rw [ho]
        show j.1 < 4000 ∧ _
        have e105 : σ.1 105 (4000 * b + j.1) = nI (iOp j) := by
          rw [hK.2.2.2.1 j.1 (by omega), p2]
          rfl
        refine ⟨p1, iOp j, by rw [p2]; exact (t j.1).toNat_lt, e105, fun v4 => ?_, fun v4 => ?_⟩
        · show _ ↔ (decide (opC (mdC m).2 o' = 4) && decide (opC (mdC m).2 (nx (mdC m).2 o') = 11)) = false
          rw [r2, opC_get hj, decide_eq_true v4, Bool.true_and, decide_eq_false_iff_not, hnx]
          unfold eV
          by_cases w : x = o'
          · rw [if_pos w]
            exact ⟨fun y => absurd y (by decide), fun y => absurd w y⟩
          · rw [if_neg w]
            refine ⟨fun _ => w, fun _ => nI_pos' ?_⟩
            have hxi := (skO_lt (sk_O (mdC m).2 i) hmem).2
            have hx4 := hpos.lt (a := x) (by omega)
            omega
        · show (decide (opC (mdC m).2 o' = 4) && _) = false
          rw [opC_get hj, decide_eq_false v4]
          rfl
    · obtain ⟨rfl, f1, g1⟩ := Qv_s hx
      exact MO.gd f1.mg g1 (h.2.1.fr f1 ⟨rfl, rfl, rfl, fun _ => rfl⟩) ((f1 103 42 rfl).1.trans h.2.2)
  · have z : iOp I = 12 := by omega
    obtain ⟨B, hU, hL⟩ := hops.1 (.inl z)
    have e : jI t m f i I J = jBr3 12 (jDue (mdC m).2 J [B]) (jBr2 (mdC m).2 [B] J) := by
      unfold jI
      rw [z, hL, if_neg (by decide), if_pos (by decide), if_neg (by decide)]
      rfl
    rw [e, z]
    exact ⟨fun _ => w_j165 (d := d + 2) (.inl rfl) hU h hl4 h0 Fr.rf, fun y => absurd y (by decide)⟩
  · have z : iOp I = 13 := by omega
    obtain ⟨B, hU, hL⟩ := hops.1 (.inr z)
    have e : jI t m f i I J = jBr3 13 (jDue (mdC m).2 (jPop 127 J).2 [B]) (jBr2 (mdC m).2 [B] (jPop 127 J).2) := by
      unfold jI
      rw [z, hL, if_neg (by decide), if_pos (by decide), if_neg (by decide)]
      rfl
    rw [e, z]
    refine ⟨fun y => absurd rfl y, fun _ => sPop (due := 127) (d := d + 3) h (by decide) (by decide) hl4 h0 Fr.rf fun σ1 f1 h1 => ?_⟩
    exact w_j165 (d := d + 2) (.inr rfl) hU h1 (Nat.le_trans jPop_T hl4) (by rw [jPop_B]; exact h0) f1
  · have z : iOp I = 14 := by omega
    have e : jI t m f i I J = jBr (mdC m).2 14 (iL I) J := by
      unfold jI
      rw [z, if_neg (by decide), if_pos (by decide), if_neg (by decide)]
    rw [e]
    exact m_brTab (d := d + 1) ops1 (by omega) z h hl4 h0
  · have z : iOp I = 15 := by omega
    have hb : (jB J)[0]? = some (jB J)[0] := List.getElem?_eq_getElem h0
    have e : jI t m f i I J = jDead (jPopG (bkG (jB J)[0]) J) := by
      unfold jI jRet
      rw [z, if_neg (by decide), if_pos (by decide), if_pos rfl, hb]
    rw [e, qno (by unfold noOp; omega)]
    refine ⟨vp_in_nI (n := 0) (by decide) (by decide), ?_⟩
    rw [show (0 : Int32).toNatClampNeg = 0 from rfl, (h.1.2.2.2.2.1 0 _ hb).2.2.1]
    exact sPopG (d := d + 3) h (h.1.1.2.2.2.1 0 _ hb).2.1 hl4 h0 Fr.rf fun σ1 f1 h1 => sDead h1 (Nat.le_trans jPopG_T hl4) (by rw [jPopG_B]; exact h0) f1 fun σ2 f2 h2 => MO.of f2 h2
end INSM
