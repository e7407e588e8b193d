/-! THE JUDGE OF A FUNCTION: calls, locals, globals; the class -/
def isT0 (v : Nat) : Prop := v = 0 ∨ isT v
theorem isT0.lt {v : Nat} (h : isT0 v) : v < 200 := by rcases h with rfl | rfl | rfl <;> decide
theorem isT.lt {v : Nat} (h : isT v) : v < 200 := by rcases h with rfl | rfl <;> decide
theorem jok.args {t : Nat → UInt8} {x : Ty} : ∀ (k : Nat) {J : JS}, jok J → jok (jArgs t x k J)
  | 0, _, h => h
  | k + 1, _, h => jok.args k h.pop
/-- number j of the function's LOCALS, its arguments first: its type -/
def loN (m : Md) (f : Nat) : Nat := (tyAt m (fnTy m f)).2.1 + (((mdC m).1[f]?).getD ([], 0, 0, 0)).1.length
def loTy (t : Nat → UInt8) (m : Md) (f k : Nat) : Nat := if k < (tyAt m (fnTy m f)).2.1 then (t ((tyAt m (fnTy m f)).1 + k)).toNat else ((((mdC m).1[f]?).getD ([], 0, 0, 0)).1[k - (tyAt m (fnTy m f)).2.1]?).getD 0
def jSet (op due : Nat) (J : JS) : JS := if op = 32 then jPush due J else if op = 33 then (jPop due J).2 else jPush due (jPop due J).2
def jLoc (t : Nat → UInt8) (m : Md) (f op B : Nat) (J : JS) : JS := if B < loN m f then jSet op (loTy t m f B) J else jBad J
def glAt (m : Md) (k : Nat) : Gl := ((mdG m)[k]?).getD (0, 0, 0, 0)
def jGlo (m : Md) (op B : Nat) (J : JS) : JS := if B < (mdG m).length then (if op = 35 then jPush (glAt m B).1 J else (jPop (glAt m B).1 (jAnd J (decide ((glAt m B).2.1 = 1)))).2) else jBad J
section CALX
variable {t : Nat → UInt8} {n d : Nat} {m : Md} {J : JS} {σ : fkS}
theorem w_call122 {ty : Nat} {σ0 : fkS} (hl : lenM m) (hf : fcM t n m) (hn4 : n ≤ 4000) (hty : ty < (mdT m).length) (hX0 : KX t n m σ0) {P : fkS → Prop} (k : ∀ K σ1, K = jPushG (tyAt m ty).2.2 (jArgs t (tyAt m ty) (tyAt m ty).2.1 J) → σ1.2.2 = σ0.2.2 → Fr sJg σ0 σ1 → rJ K σ1 → P σ1) :
    ∀ (r : Nat) (K : JS) (σ : fkS), r ≤ (tyAt m ty).2.1 → jArgs t (tyAt m ty) r K = jArgs t (tyAt m ty) (tyAt m ty).2.1 J → rJ K σ → σ.2.2 = σ0.2.2 → Fr sJg σ0 σ →
    Wq 85 (d + 2) 122 [some (.ref 50), none, none, none, some (.int (nI ty)), some (.int (nI r - 1))] [] σ (Qv fun σ' => σ'.2.2 = σ0.2.2 ∧ P σ')
  | 0, K, σ, hr, hK, h, e0, f0 => by
    have hX := hX0.fg e0 f0
    have hg := (hf.1 _ (List.mem_of_getElem? (tyAt_get hty))).2.2.2
    refine S_Judge_callOf_122 hX.2.2.2.2.2.2.2.2.1 ⟨fun _ => ⟨by decide, (c_tyG hX hl hty).mono fun x σ1 hx => ?_⟩, fun z => absurd (by decide) z⟩
    obtain ⟨v, rfl, e1, hv, hs⟩ := Qi_s hx
    subst hv
    rw [hs]
    refine ⟨rfl, (c_jpushG (d := d) h (isT0.lt hg)).mono fun x σ2 hx => ?_⟩
    obtain ⟨rfl, e2, hp⟩ := Qv_s hx
    refine ⟨e2, ?_⟩
    simp only [sW_eq e2]
    exact ⟨e2.trans e0, k _ σ2 (by rw [← hK]; rfl) (e2.trans e0) (f0.tr hp.1) hp.2⟩
  | r + 1, K, σ, hr, hK, h, e0, f0 => by
    have hX := hX0.fg e0 f0
    have l1 : (tyAt m ty).2.1 ≤ 60 := (hf.1 _ (List.mem_of_getElem? (tyAt_get hty))).1
    have hta := (hf.1 _ (List.mem_of_getElem? (tyAt_get hty))).2.1 r (by omega)
    rw [nI_pred]
    refine S_Judge_callOf_122 hX.2.2.2.2.2.2.2.2.1 ⟨fun z => absurd z (nI_pos (by omega)), fun _ => ⟨by decide, (c_tyA hX hl hf hn4 hty (j := r) (by omega)).mono fun x σ1 hx => ?_⟩⟩
    obtain ⟨v, rfl, e1, hv, hs⟩ := Qi_s hx
    subst hv
    rw [hs]
    refine ⟨rfl, kPop h hta.lt e0 f0 fun σ2 e2 f2 h2 => ?_⟩
    simp only [sW_eq (e2.trans e0.symm)]
    have hK2 : jArgs t (tyAt m ty) r (jPop (t ((tyAt m ty).1 + r)).toNat K).2 = jArgs t (tyAt m ty) (tyAt m ty).2.1 J := hK
    rw [show nI r + (-1 : Int32) = nI r - 1 from (Int32.sub_eq_add_neg (nI r) 1).symm]
    exact w_call122 hl hf hn4 hty hX0 k r (jPop (t ((tyAt m ty).1 + r)).toNat K).2 σ2 (by omega) hK2 h2 e2 f2
theorem w_call86 {ty : Nat} {σ0 : fkS} (hl : lenM m) (hf : fcM t n m) (hn4 : n ≤ 4000) (hty : ty < 2 ^ 32) (hX0 : KX t n m σ0) (h : rJ J σ) (e0 : σ.2.2 = σ0.2.2) (f0 : Fr sJg σ0 σ) : Wq 85 (d + 2) 86 [some (.ref 50), none, none, none, some (.int (nI ty)), none] [] σ (Qv fun σ' => σ'.2.2 = σ0.2.2 ∧ PJ (jCall t m ty J) σ0 σ') := by
  have hX := hX0.fg e0 f0
  have l1 : (mdT m).length ≤ 60 := hl.1
  have bad : ¬ ty < (mdT m).length → Qv (fun σ' => σ'.2.2 = σ0.2.2 ∧ PJ (jCall t m ty J) σ0 σ') none (sI σ 50 3 (0 : Int32)) := fun z => by
    unfold jCall
    rw [if_neg z]
    exact ⟨e0, f0.sI rfl, h.g false⟩
  refine S_Judge_callOf_86 hX.2.2.2.2.2.2.2.2.1 ⟨fun z => bad ?_, fun z => ⟨by decide, ?_⟩⟩
  · have := (nI_neg hty).mp z
    omega
  · have hl31 : ty < 2 ^ 31 := Nat.not_le.mp fun y => z ((nI_neg hty).mpr y)
    rw [hX.1.1]
    refine pk_lt ty (mdT m).length (fun y => ⟨by decide, (c_tyN hX hl y).mono fun x σ1 hx => ?_⟩) fun y => bad (by omega)
    obtain ⟨v, rfl, e1, hv, hs⟩ := Qi_s hx
    subst hv
    rw [hs]
    refine ⟨rfl, w_call122 (J := J) hl hf hn4 y hX0 (fun K σ1 hK e1 f1 h1 => ?_) (tyAt m ty).2.1 J σ (Nat.le_refl _) rfl h e0 f0⟩
    unfold jCall
    rw [if_pos y, ← hK]
    exact ⟨f1, h1⟩
theorem c_call {op i B : Nat} (hl : lenM m) (hf : fcM t n m) (hn4 : n ≤ 4000) (hX : KX t n m σ) (h : rJ J σ) (hi : i < 4000) (h42 : (σ.2.1 42 i).toInt32 = nI B) (hB : B < 2 ^ 32) (ho : op < 256) : Dv (d + 2) 85 [.ref 50, .int (nI i), .int (nI op)] σ (fun σ' => PJ (if op = 16 then jC16 t m B J else jC17 t m B J) σ σ') := by
  have l2 : (mdU m).length ≤ 60 := hl.2.1
  have l3 : (mdA m).length ≤ 60 := hl.2.2.1
  have hX2 := hX
  obtain ⟨k1, k2, k3, k4, k5, k6, k7, k8, k9, k10⟩ := hX2
  refine S_Judge_callOf k10 k9 ⟨by decide, vp_in_nI hi (by decide), ?_⟩
  rw [nI_clamp (n := i) (by omega), h42, k3, k2.1]
  refine And.comm.mp (pk_eq op 16 (fun z => ?_) fun z => ?_)
  · rw [if_pos z]
    have bad : ¬ B < (mdU m).length → Wq 85 (d + 2) 86 [some (.ref 50), none, none, none, some (.int (-1 : Int32)), none] [] σ (Qv fun σ' => σ'.2.2 = σ.2.2 ∧ PJ (jC16 t m B J) σ σ') := fun z => by
      unfold jC16
      rw [if_neg z]
      exact S_Judge_callOf_86 k9 ⟨fun _ => ⟨rfl, PJ.g h false⟩, fun z => absurd (by decide) z⟩
    refine ⟨fun z => bad ?_, fun z => ⟨by decide, ?_⟩⟩
    · have := (nI_neg hB).mp z
      omega
    · have hl31 : B < 2 ^ 31 := Nat.not_le.mp fun y => z ((nI_neg hB).mpr y)
      refine pk_le (mdU m).length B (fun y => bad (by omega)) fun y => ⟨by decide, vp_in_nI (by omega) (by decide), ?_⟩
      have hg : (mdU m)[B]? = some (fnTy m B) := by
        unfold fnTy
        rw [List.getElem?_eq_getElem y]
        rfl
      rw [nI_clamp (n := B) (by omega), k2.2 B _ hg]
      unfold jC16
      rw [if_pos y]
      exact w_call86 hl hf hn4 (hf.2.1 _ (List.mem_of_getElem? hg)) hX h rfl Fr.rf
  · rw [if_neg z]
    have h3 : σ.1 50 3 = b2i (jG J) := h.2.2.2.2.2
    have go : ∀ g, g = (jG J && decide (0 < (mdA m).length)) → Di (d + 1) 73 [.ref 50, .int (127 : Int32)] (sI σ 50 3 (b2i g)) (fun x2 σ1 => Wq 85 (d + 2) 86 [some (.ref 50), none, none, none, some (.int (nI B)), none] [] (sW σ1 σ) (Qv fun σ' => σ'.2.2 = σ.2.2 ∧ PJ (jC17 t m B J) σ σ')) := fun g hg => by
      refine kPop (due := 127) (σ0 := σ) (h.g g) (by decide) rfl (Fr.rf.sI rfl) fun σ1 e1 f1 h1 => ?_
      simp only [sW_eq e1]
      unfold jC17 jAnd
      rw [← hg]
      exact w_call86 hl hf hn4 hB hX h1 e1 f1
    rw [h3]
    refine ⟨fun y => go false ?_, fun y => ⟨by decide, fun w => go false ?_, fun w => go true ?_⟩⟩
    · rw [b2i_0.mp y]
      rfl
    · have : (mdA m).length = 0 := by
        refine Nat.eq_zero_of_not_pos fun q => nI_nle q (by omega) w
      rw [this]
      exact (Bool.and_false _).symm
    · have g1 : jG J = true := by
        cases hg : jG J with
        | true => rfl
        | false => exact absurd (b2i_0.mpr hg) y
      have : 0 < (mdA m).length := Nat.pos_of_ne_zero fun q => w (by rw [q]; decide)
      rw [g1, decide_eq_true this]
      rfl
end CALX
