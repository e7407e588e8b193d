/-! an INSTRUCTION that only changes values, the reference -/
def PQ (t : Nat → UInt8) (m : Md) (s : St) (p : Nat) (σ : fkS) : Prop := envM m (sE s) σ ∧ σ.1 103 68 = nI (sK s) ∧ σ.1 103 69 = nI (sT s) ∧ σ.1 103 71 = b2i (sS s) ∧ (sT s = 0 → sS s = false → oM σ (ol (sF s) ++ sR2 s) ∧ locM σ (sF s) ∧ labM t m σ (sF s) ∧ σ.1 103 70 = nI (sF s).length ∧ σ.1 103 74 = nI (nlb t m (sF s)) ∧ σ.1 103 40 = nI p)
def sDm (c j : Nat) : Bool := (Nat.beq c 103 && (Nat.beq j 40 || Nat.beq j 62 || Nat.beq j 66 || Nat.beq j 69)) || Nat.beq c 146 || Nat.beq c 148 || Nat.beq c 150 || Nat.beq c 151
theorem sDm_ri {c j : Nat} (h : sDm c j = true) : sRi c j = true := by
  unfold sDm at h
  unfold sRi
  simp only [Bool.or_eq_true, Bool.and_eq_true, Nat.beq_eq, Nat.ble_eq] at h ⊢
  omega
theorem sTm_dm {c j : Nat} (h : sTm c j = true) : sDm c j = true := by
  unfold sTm sOm at h
  unfold sDm
  simp only [Bool.or_eq_true, Bool.and_eq_true, Nat.beq_eq] at h ⊢
  omega
theorem sOm_dm {c j : Nat} (h : sOm c j = true) : sDm c j = true := sTm_dm (sOm_tm h)
def fsN (fs : List Fm) : Prop := ∀ x ∈ fs, x.2.2.1.length ≤ 110
section DATM
variable {t : Nat → UInt8} {n b N d f i k p q tk op : Nat} {m : Md} {σ σ' : fkS} {L L2 S S2 A : List Int64} {e e2 : Env} {fs : List Fm} {v w : Int64} {I : In} {Q : fkS → Prop}
theorem locM.eq : ∀ {fs : List Fm}, fsN fs → (∀ j, j < 110 * fs.length → σ'.2.1 151 j = σ.2.1 151 j) → locM σ fs → locM σ' fs
  | [], _, _, _ => trivial
  | x :: fs, hn, e, h => by
    have e : ∀ j, j < 110 * (fs.length + 1) → σ'.2.1 151 j = σ.2.1 151 j := e
    refine ⟨fun k v hk => ?_, locM.eq (fun y hy => hn y (List.mem_cons_of_mem _ hy)) (fun j hj => e j (by omega)) h.2⟩
    have h1 := hn x List.mem_cons_self
    have h2 := get_lt hk
    rw [e _ (by omega)]
    exact h.1 k v hk
theorem PQ.data {tr : Nat} (h : PQ t m ((f, i, L, S) :: fs, [], e, tk, 0, false) p σ) (f0 : Fr sDm σ σ') (hn : fsN fs) (he : envM m e2 σ') (ht : σ'.1 103 69 = nI tr) (ho : tr = 0 → oM σ' (S2 ++ ol fs) ∧ (∀ (k : Nat) (v : Int64), L2[k]? = some v → σ'.2.1 151 (110 * fs.length + k) = v) ∧ (∀ j, j < 110 * fs.length → σ'.2.1 151 j = σ.2.1 151 j) ∧ σ'.1 103 40 = nI q) : PQ t m ((f, i, L2, S2) :: fs, [], e2, tk, tr, false) q σ' := by
  obtain ⟨h1, h2, h3, h4, h5⟩ := h
  obtain ⟨o1, o2, o3, o4, o5, o6⟩ := h5 rfl rfl
  refine ⟨he, (f0 _ _ rfl).1.trans h2, ht, (f0 _ _ rfl).1.trans h4, fun z _ => ?_⟩
  obtain ⟨q1, q2, q3, q4⟩ := ho z
  refine ⟨?_, ⟨q2, o2.2.eq hn q3⟩, ?_, (f0 _ _ rfl).1.trans o4, (f0 _ _ rfl).1.trans o5, q4⟩
  · show oM σ' ((S2 ++ ol fs) ++ [])
    rw [List.append_nil]
    exact q1
  · have o3' : labM t m σ ((f, i, L2, S2) :: fs) := o3
    exact o3'.fr f0 (fun _ => rfl) fun _ => rfl
theorem PQ.ox (h : PQ t m ((f, i, L, S) :: fs, [], e, tk, 0, false) p σ) : oM σ (S ++ ol fs) := by
  have := (h.2.2.2.2 rfl rfl).1
  have e : ol ((f, i, L, S) :: fs) ++ [] = S ++ ol fs := List.append_nil _
  rw [← e]
  exact this
theorem PQ.lo (h : PQ t m ((f, i, L, S) :: fs, [], e, tk, 0, false) p σ) : ∀ (k : Nat) (v : Int64), L[k]? = some v → σ.2.1 151 (110 * fs.length + k) = v := (h.2.2.2.2 rfl rfl).2.1.1
theorem PQ.at (h : PQ t m ((f, i, L, S) :: fs, [], e, tk, 0, false) p σ) : σ.1 103 40 = nI p := (h.2.2.2.2 rfl rfl).2.2.2.2.2
/-- what a value-INSTRUCTION of the reference ends with -/
def dFin (m : Md) (fs : List Fm) (p : Nat) (r : Nat × List Int64 × List Int64 × Env) (σ σ' : fkS) : Prop := Fr sDm σ σ' ∧ envM m r.2.2.2 σ' ∧ σ'.1 103 69 = nI r.1 ∧ (r.1 = 0 → oM σ' (r.2.2.1 ++ ol fs) ∧ (∀ (k : Nat) (v : Int64), r.2.1[k]? = some v → σ'.2.1 151 (110 * fs.length + k) = v) ∧ (∀ j, j < 110 * fs.length → σ'.2.1 151 j = σ.2.1 151 j) ∧ σ'.1 103 40 = nI p)
theorem dFin.mk (f0 : Fr sTm σ σ') (hen : envM m e σ) (ht : σ'.1 103 69 = nI k) (h40 : σ.1 103 40 = nI p) (hlo : ∀ (k : Nat) (v : Int64), L[k]? = some v → σ.2.1 151 (110 * fs.length + k) = v) (ho : k = 0 → oM σ' (S2 ++ ol fs)) : dFin m fs p (k, L, S2, e) σ σ' :=
  ⟨f0.mono fun _ _ => sTm_dm, hen.fr f0 (fun _ => rfl) (fun _ => rfl) rfl, ht, fun z => ⟨ho z, fun j v hj => (f0 _ _ rfl).2.1.trans (hlo j v hj), fun _ _ => (f0 _ _ rfl).2.1, (f0 _ _ rfl).1.trans h40⟩⟩
theorem dFin.from {r : Nat × List Int64 × List Int64 × Env} {σ0 : fkS} (f0 : Fr sDm σ0 σ) (hl : ∀ j, σ.2.1 151 j = σ0.2.1 151 j) (h : dFin m fs p r σ σ') : dFin m fs p r σ0 σ' := by
  obtain ⟨h1, h2, h3, h4⟩ := h
  refine ⟨f0.tr h1, h2, h3, fun z => ?_⟩
  obtain ⟨a1, a2, a3, a4⟩ := h4 z
  exact ⟨a1, a2, fun j hj => (a3 j hj).trans (hl j), a4⟩
/-- numbers -/
theorem m_num1 (hn : isNum op) {base : Int32} (h69 : σ.1 103 69 = 0) (hen : envM m e σ) (h40 : σ.1 103 40 = nI p) (hlo : ∀ (k : Nat) (v : Int64), L[k]? = some v → σ.2.1 151 (110 * fs.length + k) = v) (ho : oM σ (S ++ ol fs)) (hd : iOp I = op) (hs : opSh m f I S) (hQ : ∀ σ', dFin m fs p (dop m I L S e) σ σ' → Q σ') : Cv (d + 5) 307 [.ref 103, .int (nI op), .int base] σ Q := by
  have hop : op < 256 := by unfold isNum at hn; omega
  have h66 : 66 < op := by unfold isNum at hn; omega
  have hdn := dop_num (m := m) (L := L) (S := S) (e := e) hd hn
  rw [hdn] at hQ
  have ne : ∀ {c : Nat}, op ≠ c → c < 256 → ¬ nI op = nI c := fun a b z => a ((nI_eq (by omega) (by omega)).mp z)
  obtain ⟨-, -, -, -, -, -, -, -, -, -, s11, s12, s13⟩ := hs
  rw [hd] at s11 s12 s13
  refine S_M_does ⟨fun _ => ⟨fun _ => ⟨fun _ => ⟨fun _ => ⟨fun _ => ⟨fun _ => ⟨fun _ => ⟨fun _ => ⟨fun _ => ⟨fun _ => ?_, fun z => absurd z (ne (c := 66) (by omega) (by decide))⟩, fun z => absurd z (ne (c := 65) (by omega) (by decide))⟩, fun z => absurd (nI_lt (a := 64) (by omega) (by omega)) z⟩, fun z => absurd (nI_lt (a := 36) (by omega) (by omega)) z⟩, fun z => absurd z (ne (c := 27) (by omega) (by decide))⟩, fun z => absurd z (ne (c := 26) (by omega) (by decide))⟩, fun z => absurd z (ne (c := 17) (by omega) (by decide))⟩, fun z => absurd z (ne (c := 16) (by omega) (by decide))⟩, fun z => absurd z (ne (c := 1) (by omega) (by decide))⟩, fun z => absurd z (ne (c := 0) (by omega) (by decide))⟩
  -- one value
  have un : isU op → ∃ v r, S = v :: r ∧ (∀ σ', Fr sOm σ σ' → oM σ' (xU op v :: (r ++ ol fs)) → Q σ') := fun hu => by
    obtain ⟨v, r, rfl, -⟩ := s11 hu
    have hu' := hu
    unfold isU at hu'
    rw [if_pos hu'] at hQ
    exact ⟨v, r, rfl, fun σ' f1 o1 => hQ σ' (dFin.mk (f1.mono fun _ _ => sOm_tm) hen ((f1 _ _ rfl).1.trans h69) h40 hlo fun _ => o1)⟩
  have top : ∀ {v : Int64} {r : List Int64} {w : Int64}, oM σ (v :: (r ++ ol fs)) → (∀ σ', Fr sOm σ σ' → oM σ' (w :: (r ++ ol fs)) → Q σ') → vp_in (σ.1 103 66 - (1 : Int32)) 140000 ∧ Q (sL σ 150 (σ.1 103 66 - (1 : Int32)).toNatClampNeg w) := fun ho hq => by
    obtain ⟨h1, h2, h3⟩ := ho.sp
    obtain ⟨f1, o1⟩ := ho.set
    rw [h1, nI_clamp (by omega)]
    exact ⟨vp_in_nI (by omega) (by decide), hq _ f1 o1⟩
  have topv : ∀ {v : Int64} {r : List Int64}, oM σ (v :: (r ++ ol fs)) → σ.2.1 150 (σ.1 103 66 - (1 : Int32)).toNatClampNeg = v := fun ho => by
    obtain ⟨h1, h2, h3⟩ := ho.sp
    rw [h1, nI_clamp (by omega), h3]
  by_cases h167 : op = 167
  · refine ⟨fun z => absurd (by rw [h167]; rfl) z, fun _ => ?_⟩
    obtain ⟨v, r, rfl, hq⟩ := un (by unfold isU; omega)
    have e1 : xU op v = v.toInt32.toInt64 := by rw [h167]; rfl
    rw [e1] at hq
    rw [topv ho]
    exact ⟨(top ho hq).1, top ho hq⟩
  refine ⟨fun _ => ?_, fun z => absurd z (ne (c := 167) h167 (by decide))⟩
  by_cases h172 : op = 172
  · refine ⟨fun z => absurd (by rw [h172]; rfl) z, fun _ => ?_⟩
    obtain ⟨v, r, rfl, hq⟩ := un (by unfold isU; omega)
    have e1 : xU op v = v := by rw [h172]; rfl
    rw [e1] at hq
    exact hq σ Fr.rf ho
  refine ⟨fun _ => ?_, fun z => absurd z (ne (c := 172) h172 (by decide))⟩
  by_cases h173 : op = 173
  · refine ⟨fun z => absurd (by rw [h173]; rfl) z, fun _ => ?_⟩
    obtain ⟨v, r, rfl, hq⟩ := un (by unfold isU; omega)
    have e1 : xU op v = lN (lo32 v) := by rw [h173]; rfl
    rw [e1, ← and32] at hq
    rw [topv ho]
    exact ⟨(top ho hq).1, top ho hq⟩
  refine ⟨fun _ => ?_, fun z => absurd z (ne (c := 173) h173 (by decide))⟩
  have c266 : (op = 69 ∨ op = 80) → Wq 307 (d + 5) 266 [some (.ref 103), none, none, none, none, none] [] σ (Qv Q) := fun hz => by
    obtain ⟨v, r, rfl, hq⟩ := un (by unfold isU; omega)
    have e1 : xU op v = b2l (decide (v = 0)) := by
      unfold xU
      rw [if_pos hz]
    rw [e1] at hq
    refine S_M_does_266 ?_
    rw [topv ho, lg_eq]
    refine ⟨(top ho hq).1, fun z => ?_, fun z => ?_⟩
    · rw [decide_eq_false z] at hq
      exact top ho hq
    · rw [decide_eq_true z] at hq
      exact top ho hq
  refine ⟨fun z => c266 (.inl ((nI_eq (b := 69) (by omega) (by decide)).mp z)), fun z69 => ⟨fun z80 => ?_, fun z => c266 (.inr ((nI_eq (b := 80) (by omega) (by decide)).mp z))⟩⟩
  have z69 : op ≠ 69 := fun y => z69 (by rw [y]; rfl)
  have z80 : op ≠ 80 := fun y => z80 (by rw [y]; rfl)
  -- two values
  have two : ¬ isU op → Cv (d + 4) 314 [.ref 103, .int (nI op)] σ Q := fun hu => by
    have hu' := hu
    unfold isU at hu'
    rw [if_neg hu'] at hQ
    unfold isNum at hn
    by_cases h90 : op ≤ 90
    · have hab : ∃ b a r, S = b :: a :: r ∧ (op ≤ 79 → c32 a ∧ c32 b) := by
        by_cases h79 : op ≤ 79
        · obtain ⟨b, a, r, rfl, ha, hb⟩ := s12 (by omega)
          exact ⟨b, a, r, rfl, fun _ => ⟨ha, hb⟩⟩
        · obtain ⟨b, a, r, rfl⟩ := s13 (by omega)
          exact ⟨b, a, r, rfl, fun y => absurd y h79⟩
      obtain ⟨b, a, r, rfl, hc⟩ := hab
      refine m_bin1 (by omega) hc ho fun σ1 f1 o1 => ?_
      have e0 : (xB op a b).1 = 0 := by
        unfold xB
        by_cases h79 : op ≤ 79
        · rw [if_pos h79]
        · rw [if_neg h79, if_pos h90]
      refine hQ σ1 (dFin.mk (f1.mono fun _ _ => sOm_tm) hen ?_ h40 hlo fun _ => o1)
      show σ1.1 103 69 = nI (xB op a b).1
      rw [e0]
      exact (f1 _ _ rfl).1.trans h69
    · have hab : ∃ b a r, S = b :: a :: r ∧ (op ≤ 120 → c32 a ∧ c32 b) := by
        by_cases h79 : op ≤ 120
        · obtain ⟨b, a, r, rfl, ha, hb⟩ := s12 (by omega)
          exact ⟨b, a, r, rfl, fun _ => ⟨ha, hb⟩⟩
        · obtain ⟨b, a, r, rfl⟩ := s13 (by omega)
          exact ⟨b, a, r, rfl, fun y => absurd y h79⟩
      obtain ⟨b, a, r, rfl, hc⟩ := hab
      exact m_bin2 (by omega) hc h69 ho fun σ1 f1 g1 o1 => hQ σ1 (dFin.mk f1 hen g1 h40 hlo fun y => o1 y)
  have onb : 103 ≤ op ∧ op ≤ 105 ∨ 121 ≤ op ∧ op ≤ 123 → Cj (d + 4) 313 [.ref 103, .int (nI op)] σ (fun x2 σ1 => (vp_in ((σ.1 103 66) - (1 : Int32)) 140000 ∧ Q (sL σ1 150 (((σ.1 103 66) - (1 : Int32)).toNatClampNeg) x2))) := fun hz => by
    obtain ⟨v, r, rfl, hq⟩ := un (by unfold isU; omega)
    exact m_bits hz ho (top ho hq)
  have c313 : ¬ (103 ≤ op ∧ op ≤ 105) → Wq 307 (d + 5) 313 [some (.ref 103), some (.int (nI op)), none, none, none, none] [] σ (Qv Q) := fun hz => by
    refine S_M_does_313 ⟨fun y => ?_, fun y => ⟨fun w => ?_, fun w => ?_⟩⟩
    · have y : op < 121 := (nI_ltI (b := 121) (by omega) (by decide)).mp y
      exact two (by unfold isU; unfold isNum at hn; omega)
    · have w : 123 < op := (nI_ltI (a := 123) (by decide) (by omega)).mp w
      exact two (by unfold isU; unfold isNum at hn; omega)
    · have y : ¬ op < 121 := fun u => y ((nI_ltI (b := 121) (by omega) (by decide)).mpr u)
      have w : ¬ 123 < op := fun u => w ((nI_ltI (a := 123) (by decide) (by omega)).mpr u)
      exact onb (.inr (by omega))
  refine ⟨fun y => ?_, fun y => ⟨fun w => ?_, fun w => ?_⟩⟩
  · have y : op < 103 := (nI_ltI (b := 103) (by omega) (by decide)).mp y
    exact c313 (by omega)
  · have y : ¬ op < 103 := fun u => y ((nI_ltI (b := 103) (by omega) (by decide)).mpr u)
    have w : op ≤ 105 := (nI_leI (b := 105) (by omega) (by decide)).mp w
    exact onb (.inl (by omega))
  · have w : ¬ op ≤ 105 := fun u => w ((nI_leI (b := 105) (by omega) (by decide)).mpr u)
    exact c313 (by omega)
end DATM
