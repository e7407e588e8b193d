/-! THE JUDGE OF A FUNCTION: locals, globals, memory, numbers; the class -/
def acc (op : Nat) : Nat := if op = 40 ∨ (44 ≤ op ∧ op ≤ 47) ∨ op = 54 ∨ op = 58 ∨ op = 59 then 127 else 126
def wid (op : Nat) : Nat := if op = 41 ∨ op = 55 then 8 else if op = 44 ∨ op = 45 ∨ op = 48 ∨ op = 49 ∨ op = 58 ∨ op = 60 then 1 else if op = 46 ∨ op = 47 ∨ op = 50 ∨ op = 51 ∨ op = 59 ∨ op = 61 then 2 else 4
def jMe2 (op : Nat) (J : JS) : JS := if op < 54 then jPush (acc op) (jPop 127 J).2 else (jPop 127 (jPop (acc op) J).2).2
def jMem (m : Md) (op al : Nat) (J : JS) : JS := if op = 63 then jPush 127 (jAnd J (decide (0 < (mdM m).length))) else if op = 64 then jPush 127 (jPop 127 (jAnd J (decide (0 < (mdM m).length)))).2 else jMe2 op (jAnd (jAnd J (decide (0 < (mdM m).length))) (decide (al < 4) && decide (2 ^ al ≤ wid op)))
def jNum (op : Nat) (J : JS) : JS := if op = 167 then jTurn 126 1 127 J else if 172 ≤ op then jTurn 127 1 126 J else if op ≤ 79 then jTurn 127 (if op = 69 then 1 else 2) 127 J else if op ≤ 90 then jTurn 126 (if op = 80 then 1 else 2) 127 J else if op ≤ 120 then jTurn 127 (if op ≤ 105 then 1 else 2) 127 J else jTurn 126 (if op ≤ 123 then 1 else 2) 126 J
/-- LOCALS have types -/
def fcC (m : Md) : Prop := ∀ x ∈ (mdC m).1, x.1.length ≤ 50 ∧ ∀ y ∈ x.1, isT y
/-- the function that is judged -/
def FX (m : Md) (f : Nat) : Prop := f < (mdU m).length ∧ fnTy m f < (mdT m).length ∧ (mdU m).length = (mdC m).1.length ∧ fcC m
theorem acc_lt {op : Nat} : acc op < 200 := by
  unfold acc
  split <;> decide
theorem bz {g : Bool} {P : Prop} : fk_bz (b2i g) P ↔ P := by cases g <;> exact Iff.rfl
theorem b2t {b : Bool} (h : ¬ b2i b = 0) : b = true := by
  cases b with
  | true => rfl
  | false => exact absurd rfl h
section USEX
variable {t : Nat → UInt8} {n d f : Nat} {m : Md} {J : JS} {σ : fkS}
theorem c_acc {op : Nat} (ho : op < 256) : Di d 93 [.int (nI op)] σ (fun r σ' => r = nI (acc op) ∧ σ' = σ) := by
  have w : op ≠ 40 → ¬ (44 ≤ op ∧ op ≤ 47) → Wq 93 d 18 [some (.int (nI op)), none] [] σ (Qi fun r σ' => σ'.2.2 = σ.2.2 ∧ r = nI (acc op) ∧ σ' = σ) := fun h1 h2 => by
    refine S_Judge_accessType_18 (pk_eq op 54 (fun z => ⟨fun y => absurd y (by decide), fun _ => ⟨rfl, ?_, rfl⟩⟩) fun z1 => pk_eq op 58 (fun z => ⟨fun y => absurd y (by decide), fun _ => ⟨rfl, ?_, rfl⟩⟩) fun z2 => And.comm.mp (pk_eq op 59 (fun z => ⟨fun y => absurd y (by decide), fun _ => ⟨rfl, ?_, rfl⟩⟩) fun z3 => ⟨fun _ => ⟨rfl, ?_, rfl⟩, fun y => absurd rfl y⟩))
    · unfold acc
      rw [if_pos (by omega)]
      rfl
    · unfold acc
      rw [if_pos (by omega)]
      rfl
    · unfold acc
      rw [if_pos (by omega)]
      rfl
    · unfold acc
      rw [if_neg (by omega)]
      rfl
  refine S_Judge_accessType (pk_eq op 40 (fun z => ⟨fun y => absurd y (by decide), fun _ => ⟨rfl, ?_, rfl⟩⟩) fun z1 => pk_lt op 44 (fun z2 => w z1 (by omega)) fun z2 => pk_le op 47 (fun z => ⟨fun y => absurd y (by decide), fun _ => ⟨rfl, ?_, rfl⟩⟩) fun z3 => w z1 (by omega))
  · unfold acc
    rw [if_pos (by omega)]
    rfl
  · unfold acc
    rw [if_pos (by omega)]
    rfl
theorem c_wid {op : Nat} (ho : op < 256) : Di d 92 [.int (nI op)] σ (fun r σ' => r = nI (wid op) ∧ σ' = σ) := by
  have hi : (nI op).toInt = (op : Int) := nI_toInt (by omega)
  refine S_Judge_width ?_
  rw [hi]
  refine ⟨fun z => ⟨rfl, ?_, rfl⟩, ?_⟩
  · unfold wid
    rw [if_neg (by omega), if_neg (by omega), if_neg (by omega)]
    rfl
  have fin : ∀ (k v : Nat), wid k = v → ((op : Int) = (k : Int) → Qi (fun r σ' => σ'.2.2 = σ.2.2 ∧ r = nI (wid op) ∧ σ' = σ) (some (.int (nI v))) σ) := fun k v hk z => by
    have : op = k := by omega
    subst this
    exact ⟨rfl, congrArg nI hk.symm, rfl⟩
  exact ⟨fin 41 8 (by decide), fin 42 4 (by decide), fin 43 4 (by decide), fin 44 1 (by decide), fin 45 1 (by decide), fin 46 2 (by decide), fin 47 2 (by decide), fin 48 1 (by decide), fin 49 1 (by decide), fin 50 2 (by decide), fin 51 2 (by decide), fin 52 4 (by decide), fin 53 4 (by decide), fin 54 4 (by decide), fin 55 8 (by decide), fin 56 4 (by decide), fin 57 4 (by decide), fin 58 1 (by decide), fin 59 2 (by decide), fin 60 1 (by decide), fin 61 2 (by decide), trivial⟩
theorem w_loc90 {op due : Nat} {σ0 : fkS} (h : rJ J σ) (ho : op < 256) (hd : due < 200) (e0 : σ.2.2 = σ0.2.2) (f0 : Fr sJg σ0 σ) : Wq 89 (d + 1) 90 [some (.ref 50), none, some (.int (nI op)), none, none, none] [.int (nI due)] σ (Qv fun σ' => σ'.2.2 = σ0.2.2 ∧ PJ (jSet op due J) σ0 σ') := by
  refine S_Judge_local_90 (pk_eq op 32 (fun z => pk_eq op 33 (fun y => absurd y (by omega)) fun _ => ?_) fun z => ?_)
  · refine kPush h hd e0 f0 fun σ1 e1 f1 h1 => ?_
    simp only [sW_eq (e1.trans e0.symm)]
    unfold jSet
    rw [if_pos z]
    exact ⟨e1, f1, h1⟩
  · refine kPop h hd e0 f0 fun σ1 e1 f1 h1 => ?_
    simp only [sW_eq (e1.trans e0.symm)]
    unfold jSet
    rw [if_neg z]
    refine pk_eq op 33 (fun y => ?_) fun y => ?_
    · rw [if_pos y]
      exact ⟨e1, f1, h1⟩
    · rw [if_neg y]
      refine kPush h1 hd e1 f1 fun σ2 e2 f2 h2 => ?_
      simp only [sW_eq (e2.trans e0.symm)]
      exact ⟨e2, f2, h2⟩
theorem c_loUse {op B : Nat} (hl : lenM m) (hf : fcM t n m) (hn4 : n ≤ 4000) (hX : KX t n m σ) (h : rJ J σ) (hF : FX m f) (h502 : σ.1 50 2 = nI f) (hB : B < 2 ^ 32) (ho : op < 256) : Dv (d + 1) 89 [.ref 50, .int (nI B), .int (nI op)] σ (fun σ' => PJ (jLoc t m f op B J) σ σ') := by
  have l2 : (mdU m).length ≤ 60 := hl.2.1
  obtain ⟨F1, F2, F3, F4⟩ := hF
  have hX2 := hX
  obtain ⟨k1, k2, k3, k4, k5, k6, k7, k8, k9, k10⟩ := hX2
  have hfu : (mdU m)[f]? = some (fnTy m f) := by
    unfold fnTy
    rw [List.getElem?_eq_getElem F1]
    rfl
  have ty1 : (tyAt m (fnTy m f)).2.1 ≤ 60 := (hf.1 _ (List.mem_of_getElem? (tyAt_get F2))).1
  have hfc : f < (mdC m).1.length := by omega
  have hfi : (mdC m).1[f]? = some (((mdC m).1[f]?).getD ([], 0, 0, 0)) := by
    rw [List.getElem?_eq_getElem hfc]
    rfl
  obtain ⟨C1, C2⟩ := F4 _ (List.mem_of_getElem? hfi)
  obtain ⟨-, -, r39, r40⟩ := k6 f _ hfi
  have bad : ¬ B < loN m f → Qv (fun σ' => σ'.2.2 = σ.2.2 ∧ PJ (jLoc t m f op B J) σ σ') none (sI σ 50 3 (0 : Int32)) := fun z => by
    unfold jLoc
    rw [if_neg z]
    exact ⟨rfl, PJ.g h false⟩
  have eN : loN m f = (tyAt m (fnTy m f)).2.1 + (((mdC m).1[f]?).getD ([], 0, 0, 0)).1.length := rfl
  have eT : loTy t m f B = if B < (tyAt m (fnTy m f)).2.1 then (t ((tyAt m (fnTy m f)).1 + B)).toNat else ((((mdC m).1[f]?).getD ([], 0, 0, 0)).1[B - (tyAt m (fnTy m f)).2.1]?).getD 0 := rfl
  have eL : B < loN m f → jLoc t m f op B J = jSet op (loTy t m f B) J := fun z => if_pos z
  generalize hFi : ((mdC m).1[f]?).getD ([], 0, 0, 0) = x at *
  refine S_Judge_local k9 k10 ⟨by decide, ?_⟩
  rw [h502, nI_clamp (n := f) (by omega), k2.2 f _ hfu]
  refine ⟨vp_in_nI (by omega) (by decide), by decide, (c_tyN hX hl F2).mono fun z σ1 hx => ?_⟩
  obtain ⟨v, rfl, e1, hv, hs⟩ := Qi_s hx
  subst hv
  rw [hs]
  refine ⟨rfl, fun z => bad ?_, fun z => ⟨by decide, ?_⟩⟩
  · have := (nI_neg hB).mp z
    omega
  · have hl31 : B < 2 ^ 31 := Nat.not_le.mp fun y => z ((nI_neg hB).mpr y)
    simp only [sW_id]
    rw [h502, nI_clamp (n := f) (by omega), r39, nI_add]
    refine ⟨vp_in_nI (by omega) (by decide), pk_lt B ((tyAt m (fnTy m f)).2.1 + x.1.length) (fun y => ?_) fun y => bad (by omega)⟩
    rw [eL (by omega)]
    refine pk_le (tyAt m (fnTy m f)).2.1 B (fun w => ?_) fun w => ?_
    · have e50 : nI f * (50 : Int32) + nI B - nI (tyAt m (fnTy m f)).2.1 = nI (50 * f + (B - (tyAt m (fnTy m f)).2.1)) := by
        rw [show (50 : Int32) = nI 50 from rfl, nI_mul, nI_add, nI_sub (by omega)]
        congr 1
        omega
      have hxx : x.1[B - (tyAt m (fnTy m f)).2.1]? = some (loTy t m f B) := by
        rw [eT, if_neg (by omega), List.getElem?_eq_getElem (by omega)]
        rfl
      rw [e50, nI_clamp (n := 50 * f + (B - (tyAt m (fnTy m f)).2.1)) (by omega), r40 _ _ hxx]
      exact ⟨by decide, vp_in_nI (by omega) (by decide), w_loc90 h ho (C2 _ (List.mem_of_getElem? hxx)).lt rfl Fr.rf⟩
    · have hta := (hf.1 _ (List.mem_of_getElem? (tyAt_get F2))).2.1 B w
      refine ⟨by decide, (c_tyA hX hl hf hn4 F2 (j := B) w).mono fun z σ1 hx => ?_⟩
      obtain ⟨v, rfl, e1, hv, hs⟩ := Qi_s hx
      subst hv
      rw [hs]
      refine ⟨rfl, ?_⟩
      have : loTy t m f B = (t ((tyAt m (fnTy m f)).1 + B)).toNat := by rw [eT, if_pos w]
      rw [this]
      exact w_loc90 h ho hta.lt rfl Fr.rf
theorem c_glUse {op B : Nat} (hl : lenM m) (hf : fcM t n m) (hX : KX t n m σ) (h : rJ J σ) (hB : B < 2 ^ 32) (ho : op < 256) : Dv (d + 1) 90 [.ref 50, .int (nI B), .int (nI op)] σ (fun σ' => PJ (jGlo m op B J) σ σ') := by
  have l5 : (mdG m).length ≤ 60 := hl.2.2.2.2.1
  obtain ⟨k1, k2, k3, k4, k5, k6, k7, k8, k9, k10⟩ := hX
  have h3 : σ.1 50 3 = b2i (jG J) := h.2.2.2.2.2
  have bad : ¬ B < (mdG m).length → Qv (fun σ' => σ'.2.2 = σ.2.2 ∧ PJ (jGlo m op B J) σ σ') none (sI σ 50 3 (0 : Int32)) := fun z => by
    unfold jGlo
    rw [if_neg z]
    exact ⟨rfl, PJ.g h false⟩
  refine S_Judge_globalUse k9 ⟨fun z => bad ?_, fun z => ⟨by decide, ?_⟩⟩
  · have := (nI_neg hB).mp z
    omega
  · have hl31 : B < 2 ^ 31 := Nat.not_le.mp fun y => z ((nI_neg hB).mpr y)
    rw [k5.1]
    refine pk_lt B (mdG m).length (fun y => ?_) fun y => bad (by omega)
    have hg : (mdG m)[B]? = some (glAt m B) := by
      unfold glAt
      rw [List.getElem?_eq_getElem y]
      rfl
    obtain ⟨g1, g2, g3, g4⟩ := k5.2 B _ hg
    obtain ⟨q1, q2, q3⟩ := hf.2.2.2.2.1 _ (List.mem_of_getElem? hg)
    have e3 : (3 : Int32) * nI B = nI (3 * B) := by rw [show (3 : Int32) = nI 3 from rfl, nI_mul]
    have v3 : vp_in (nI (3 * B)) 180 := vp_in_nI (by omega) (by decide)
    rw [e3, nI_1, nI_clamp (n := 3 * B) (by omega), nI_clamp (n := 3 * B + 1) (by omega), g1, g2, h3]
    have ej : jGlo m op B J = if op = 35 then jPush (glAt m B).1 J else (jPop (glAt m B).1 (jAnd J (decide ((glAt m B).2.1 = 1)))).2 := if_pos y
    rw [ej]
    refine And.comm.mp (pk_eq op 35 (fun w => ⟨by decide, v3, ?_⟩) fun w => ?_)
    · refine kPush h q1.lt rfl Fr.rf fun σ1 e1 f1 h1 => ?_
      simp only [sW_eq e1]
      rw [if_pos w]
      exact ⟨e1, f1, h1⟩
    · rw [if_neg w]
      have go : ∀ g, g = (jG J && decide ((glAt m B).2.1 = 1)) → Di d 73 [.ref 50, .int (nI (glAt m B).1)] (sI σ 50 3 (b2i g)) (fun x2 σ1 => Qv (fun σ' => σ'.2.2 = σ.2.2 ∧ PJ (jPop (glAt m B).1 (jAnd J (decide ((glAt m B).2.1 = 1)))).2 σ σ') none (sW σ1 σ)) := fun g hg => by
        refine kPop (σ0 := σ) (h.g g) q1.lt rfl (Fr.rf.sI rfl) fun σ1 e1 f1 h1 => ?_
        simp only [sW_eq e1]
        unfold jAnd
        rw [← hg]
        exact ⟨e1, f1, h1⟩
      refine ⟨fun u => ⟨by decide, v3, go false ?_⟩, fun u => ⟨by decide, vp_in_nI (by omega) (by decide), And.comm.mp (pk_eq (glAt m B).2.1 1 (fun s => ⟨by decide, v3, go true ?_⟩) fun s => ⟨by decide, v3, go false ?_⟩)⟩⟩
      · rw [b2i_0.mp u]
        rfl
      · rw [b2t u, decide_eq_true s]
        rfl
      · rw [decide_eq_false s, Bool.and_false]
theorem c_num {op : Nat} (h : rJ J σ) (ho : op < 256) : Dv (d + 2) 94 [.ref 50, .int (nI op)] σ (fun σ' => PJ (jNum op J) σ σ') := by
  have go : ∀ {a tm b : Nat}, jNum op J = jTurn a tm b J → a < 200 → b < 200 → (tm = 1 ∨ tm = 2) → Dv (d + 1) 95 [.ref 50, .int (nI a), .int (nI tm), .int (nI b)] σ (fun σ1 => Qv (fun σ' => σ'.2.2 = σ.2.2 ∧ PJ (jNum op J) σ σ') none (sW σ1 σ)) := fun hj ha hb ht => by
    refine (c_turn h ha hb ht).mono fun x σ1 hx => ?_
    obtain ⟨rfl, e1, hp⟩ := Qv_s hx
    refine ⟨e1, ?_⟩
    simp only [sW_eq e1]
    rw [hj]
    exact ⟨e1, hp⟩
  refine S_Judge_number (And.comm.mp (pk_eq op 167 (fun z => go (tm := 1) (a := 126) (b := 127) ?_ (by decide) (by decide) (.inl rfl)) fun z => pk_lt op 172 (fun z2 => ?_) fun z2 => go (tm := 1) (a := 127) (b := 126) ?_ (by decide) (by decide) (.inl rfl)))
  · unfold jNum
    rw [if_pos z]
  · refine pk_lt 79 op (fun z3 => pk_lt 90 op (fun z4 => pk_lt 120 op (fun z5 => pk_lt 123 op (fun z6 => go (a := 126) (tm := 2) (b := 126) ?_ (by decide) (by decide) (.inr rfl)) fun z6 => go (a := 126) (tm := 1) (b := 126) ?_ (by decide) (by decide) (.inl rfl)) fun z5 => pk_lt 105 op (fun z6 => go (a := 127) (tm := 2) (b := 127) ?_ (by decide) (by decide) (.inr rfl)) fun z6 => go (a := 127) (tm := 1) (b := 127) ?_ (by decide) (by decide) (.inl rfl)) fun z4 => And.comm.mp (pk_eq op 80 (fun z6 => go (a := 126) (tm := 1) (b := 127) ?_ (by decide) (by decide) (.inl rfl)) fun z6 => go (a := 126) (tm := 2) (b := 127) ?_ (by decide) (by decide) (.inr rfl))) fun z3 => And.comm.mp (pk_eq op 69 (fun z6 => go (a := 127) (tm := 1) (b := 127) ?_ (by decide) (by decide) (.inl rfl)) fun z6 => go (a := 127) (tm := 2) (b := 127) ?_ (by decide) (by decide) (.inr rfl))
    · unfold jNum
      rw [if_neg z, if_neg (by omega), if_neg (by omega), if_neg (by omega), if_neg (by omega), if_neg (by omega)]
    · unfold jNum
      rw [if_neg z, if_neg (by omega), if_neg (by omega), if_neg (by omega), if_neg (by omega), if_pos (by omega)]
    · unfold jNum
      rw [if_neg z, if_neg (by omega), if_neg (by omega), if_neg (by omega), if_pos (by omega), if_neg (by omega)]
    · unfold jNum
      rw [if_neg z, if_neg (by omega), if_neg (by omega), if_neg (by omega), if_pos (by omega), if_pos (by omega)]
    · unfold jNum
      rw [if_neg z, if_neg (by omega), if_neg (by omega), if_pos (by omega), if_pos z6]
    · unfold jNum
      rw [if_neg z, if_neg (by omega), if_neg (by omega), if_pos (by omega), if_neg z6]
    · unfold jNum
      rw [if_neg z, if_neg (by omega), if_pos (by omega), if_pos z6]
    · unfold jNum
      rw [if_neg z, if_neg (by omega), if_pos (by omega), if_neg z6]
  · unfold jNum
    rw [if_neg z, if_pos (by omega)]
end USEX
