/-! RUNNING, in the middle: what branches, ends and CALLS find -/
section CTL
variable {t : Nat → UInt8} {n f : Nat} {m : Md} {J K : JS} {S L : List Int64} {e : Env} {I : In}
/-- the function's own block -/
theorem okFn.b0 (h : okFn t n m f) : ∀ (k : Nat), fiS (fiAt m f) + k ≤ fiE (fiAt m f) → pre 0 0 (none, 0, gvF m f, false) ([], [], true) (jAt t m f (fiS (fiAt m f) + k))
  | 0, _ => by
    show pre _ _ _ _ (jAt t m f (fiS (fiAt m f)))
    rw [h.st0]
    exact ⟨Nat.zero_lt_one, rfl, ⟨false, rfl⟩, rfl, Nat.zero_le _⟩
  | k + 1, hk => by
    have ih := h.b0 k (by omega)
    obtain ⟨I2, hI2, hfI2⟩ := h.ins (i := fiS (fiAt m f) + k) (by omega)
    have hjk := h.jo (i := fiS (fiAt m f) + k) (by omega) (by omega)
    have hskJ := (h.skj (i := fiS (fiAt m f) + k) (by omega) (by omega)).len
    have h20 := h.C.2.2 (fiS (fiAt m f) + k)
    show pre _ _ _ _ (jAt t m f (fiS (fiAt m f) + k + 1))
    rw [h.succ (by omega) (by omega) hI2]
    by_cases z11 : iOp I2 = 11
    · rw [jI_11 z11]
      refine ih.blk rfl hjk ?_
      have := h.fF.2.2.2 _ I2 (by omega) hI2 (by omega)
      have hne : sk (mdC m).2 (fiS (fiAt m f) + k) ≠ [] := fun w => this ⟨z11, w⟩
      have := List.length_pos_iff.mpr hne
      omega
    by_cases z24 : 2 ≤ iOp I2 ∧ iOp I2 ≤ 4
    · rw [jI_24 z24]
      have st : stays (jAt t m f (fiS (fiAt m f) + k)) (if iOp I2 = 4 then (jPop 127 (jAt t m f (fiS (fiAt m f) + k))).2 else jAt t m f (fiS (fiAt m f) + k)) := by
        split
        · exact (stays.rf hjk (by omega)).pop
        · exact stays.rf hjk (by omega)
      have eB : (jB (if iOp I2 = 4 then (jPop 127 (jAt t m f (fiS (fiAt m f) + k))).2 else jAt t m f (fiS (fiAt m f) + k))).length = (jB (jAt t m f (fiS (fiAt m f) + k))).length := by
        split
        · rw [jPop_B]
        · rfl
      exact (ih.sm rfl hjk st.2).opn (by omega)
    · exact ih.sm rfl hjk (stays_I h.1.2.1 h.F hfI2 hjk (by omega) z11 z24).2
theorem okFn.fb (h : okFn t n m f) {i : Nat} (h1 : fiS (fiAt m f) ≤ i) (h2 : i ≤ fiE (fiAt m f)) : ∃ v, (jB (jAt t m f i))[0]? = some (none, 0, gvF m f, v) := by
  obtain ⟨k, rfl⟩ := Nat.exists_eq_add_of_le h1
  exact (h.b0 k h2).2.2.1
/-- where all is alive, a part ends with just what its block gives -/
theorem part_lv {b : Bk} (h : lv J) (hb : jTop J = some b) (hg : jG (jPart J) = true) : jT J = (jT J).take (bkF b) ++ gvL (bkG b) := by
  unfold jPart at hg
  rw [hb] at hg
  have hg : (jG (jPopG (bkG b) J) && decide ((jT (jPopG (bkG b) J)).length = bkF b)) = true := hg
  rw [Bool.and_eq_true, decide_eq_true_iff] at hg
  obtain ⟨g1, g2⟩ := hg
  unfold gvL
  unfold jPopG at g1 g2
  by_cases z : bkG b = 0
  · rw [if_pos z] at g2
    rw [if_pos z, List.append_nil, ← g2, List.take_length]
  · rw [if_neg z] at g1 g2
    rw [if_neg z]
    obtain ⟨T, ty, c, a1, a2, a3, a4, a5, a6, a7⟩ := h.pop g1
    rw [a5] at g2
    have g2 : T.length = bkF b := g2
    rw [a2, ← g2, List.take_append_of_le_length (Nat.le_refl _), List.take_length, a4 z]
/-- what is popped for a label -/
theorem popG_lv {g : Nat} (h : lv J) (hg : jG (jPopG g J) = true) : ∃ T, jT J = T ++ gvL g ∧ jPopG g J = (T, jB J, true) ∧ lv (T, jB J, true) ∧ ∀ b, jTop J = some b → bkF b ≤ T.length := by
  unfold jPopG at hg ⊢
  unfold gvL
  by_cases z : g = 0
  · rw [if_pos z, if_pos z]
    have e : J = (jT J, jB J, true) := by
      rw [← h.2.1]
      rfl
    obtain ⟨b, b1, b2, b3, b4⟩ := h.top
    refine ⟨jT J, (List.append_nil _).symm, e, by rw [← e]; exact h, fun c hc => ?_⟩
    rw [b1] at hc
    cases hc
    exact b3
  · rw [if_neg z] at hg
    rw [if_neg z, if_neg z]
    obtain ⟨T, ty, c, a1, a2, a3, a4, a5, a6, a7⟩ := h.pop hg
    refine ⟨T, by rw [a2, a4 z], by rw [a5], a7, fun b hb => ?_⟩
    rw [a1] at hb
    cases hb
    exact a6
/-- what goes to a label: so many of its block's values below, and what is carried -/
theorem car_ty {C : List In} {b : Bk} {T : List Nat} {g : Nat} (hS : tyd S (T ++ gvL g)) (hg : bNeed C b = g) (hF : bkF b ≤ T.length) : tyd ((if bCar C b = 0 then [] else S.take 1) ++ S.drop (S.length - bkF b)) ((T ++ gvL g).take (bkF b) ++ gvL g) ∧ (bCar C b ≠ 0 → ∃ v r, S = v :: r) ∧ (bCar C b = 0 ↔ g = 0) ∧ bCar C b ≤ 1 ∧ bkF b ≤ S.length := by
  have hlen := hS.len
  rw [List.length_append] at hlen
  have hd := hS.take (k := bkF b) (by rw [List.length_append]; omega)
  have hc : bCar C b = 0 ↔ g = 0 := by
    unfold bCar
    unfold bNeed at hg
    by_cases z : jLoop C b = true
    · rw [if_pos z] at hg
      rw [if_pos (.inl z)]
      exact ⟨fun _ => hg.symm, fun _ => rfl⟩
    · rw [if_neg z] at hg
      by_cases w : bkG b = 0
      · rw [if_pos (.inr w)]
        exact ⟨fun _ => by omega, fun _ => rfl⟩
      · rw [if_neg (by rintro (q | q) <;> contradiction)]
        exact ⟨fun q => absurd q (by decide), fun q => by omega⟩
  have h1 : bCar C b ≤ 1 := by
    unfold bCar
    split <;> decide
  by_cases z : bCar C b = 0
  · have hg0 := hc.mp z
    rw [if_pos z]
    refine ⟨?_, fun w => absurd z w, hc, h1, by omega⟩
    rw [hg0] at hd ⊢
    show tyd ([] ++ _) ((T ++ []).take _ ++ [])
    rw [List.append_nil, List.nil_append]
    exact hd
  · have hg0 : ¬ g = 0 := fun w => z (hc.mpr w)
    have eg : gvL g = [g] := if_neg hg0
    rw [eg] at hS hd ⊢
    rw [if_neg z]
    obtain ⟨v, r, rfl, hv, hr⟩ := hS.un
    exact ⟨hd.snoc hv, fun _ => ⟨v, r, rfl⟩, hc, h1, by omega⟩
/-- ARGUMENTS' types, the first first -/
def agL (t : Nat → UInt8) (x : Ty) : Nat → List Nat
  | 0 => []
  | k + 1 => agL t x k ++ [(t (x.1 + k)).toNat]
theorem agL_len (t : Nat → UInt8) (x : Ty) : ∀ k, (agL t x k).length = k
  | 0 => rfl
  | k + 1 => by rw [agL, List.length_append, agL_len t x k]; rfl
theorem agL_get (t : Nat → UInt8) (x : Ty) : ∀ (k j : Nat), j < k → (agL t x k)[j]? = some (t (x.1 + j)).toNat
  | 0, _, h => absurd h (Nat.not_lt_zero _)
  | k + 1, j, h => by
    rw [agL]
    by_cases z : j < k
    · rw [List.getElem?_append_left (by rw [agL_len]; exact z)]
      exact agL_get t x k j z
    · have : j = k := by omega
      subst this
      rw [List.getElem?_append_right (by rw [agL_len]; exact Nat.le_refl _), agL_len, Nat.sub_self]
      rfl
theorem args_lv {x : Ty} : ∀ (k : Nat) {J : JS}, lv J → (∀ j, j < k → isT (t (x.1 + j)).toNat) → jG (jArgs t x k J) = true → ∃ T, jT J = T ++ agL t x k ∧ jArgs t x k J = (T, jB J, true) ∧ lv (T, jB J, true)
  | 0, J, h, _, _ => ⟨jT J, (List.append_nil _).symm, by
    show J = _
    rw [← h.2.1]
    rfl, by
    have e : J = (jT J, jB J, true) := by
      rw [← h.2.1]
      rfl
    rw [← e]
    exact h⟩
  | k + 1, J, h, hT, hg => by
    rw [jArgs] at hg ⊢
    have g1 := jG_args k hg
    obtain ⟨T, ty, c, a1, a2, a3, a4, a5, a6, a7⟩ := h.pop g1
    rw [a5] at hg ⊢
    obtain ⟨T2, b1, b2, b3⟩ := args_lv k a7 (fun j hj => hT j (by omega)) hg
    have b1 : T = T2 ++ agL t x k := b1
    refine ⟨T2, ?_, b2, b3⟩
    rw [a2, b1, agL, List.append_assoc, a4 (isT_ne (hT k (by omega)))]
/-- a CALL's ARGUMENTS: their types, what is left, what comes back -/
theorem call_lv {ty : Nat} (hf : fcM t n m) (h : lv J) (h4 : (jT J).length ≤ 4000) (hg : jG (jCall t m ty J) = true) : ty < (mdT m).length ∧ ∃ T, jT J = T ++ agL t (tyAt m ty) (tyAt m ty).2.1 ∧ jCall t m ty J = (T ++ gvL (tyAt m ty).2.2, jB J, true) ∧ lv (jCall t m ty J) := by
  obtain ⟨g1, hty⟩ := jG_call hg
  refine ⟨hty, ?_⟩
  have hfT := hf.1 _ (List.mem_of_getElem? (tyAt_get hty))
  have e : jCall t m ty J = jPushG (tyAt m ty).2.2 (jArgs t (tyAt m ty) (tyAt m ty).2.1 J) := if_pos hty
  rw [e] at hg ⊢
  rw [jG_pushG] at hg
  obtain ⟨T, a1, a2, a3⟩ := args_lv _ h hfT.2.1 hg
  have hl : T.length ≤ 4000 := by
    have := congrArg List.length a1
    rw [List.length_append] at this
    omega
  rw [a2]
  refine ⟨T, a1, pushG_T hl, ?_⟩
  unfold jPushG
  split
  · exact a3
  next z =>
    have hT : isT (tyAt m ty).2.2 := by
      rcases hfT.2.2.2 with w | w
      · exact absurd w z
      · exact w
    obtain ⟨p1, p2⟩ := a3.push hT hl
    rw [p1]
    exact p2
theorem tyR_app : ∀ {A B : List Nat} {S : List Int64}, tyR S (A ++ B) → tyR (S.take A.length) A ∧ tyR (S.drop A.length) B
  | [], _, _, h => ⟨trivial, h⟩
  | _ :: _, _, [], h => h.elim
  | _ :: _, _, _ :: _, h => by
    obtain ⟨h1, h2⟩ := tyR_app h.2
    exact ⟨⟨h.1, h1⟩, h2⟩
theorem tyd_app {B : List Nat} {S : List Int64} {T : List Nat} (h : tyd S (T ++ B)) : tyd (S.take B.length) B ∧ tyd (S.drop B.length) T := by
  unfold tyd at h ⊢
  rw [List.reverse_append] at h
  have := tyR_app h
  rw [List.length_reverse] at this
  exact this
theorem tyR_get : ∀ {S : List Int64} {T : List Nat} {k ty : Nat} {v : Int64}, tyR S T → T[k]? = some ty → S[k]? = some v → can ty v
  | [], [], _, _, _, _, h, _ => by cases h
  | _ :: _, _ :: _, 0, _, _, h, h1, h2 => by
    cases h1
    cases h2
    exact h.1
  | _ :: _, _ :: _, _ + 1, _, _, h, h1, h2 => tyR_get h.2 h1 h2
  | [], _ :: _, _, _, _, h, _, _ => h.elim
  | _ :: _, [], _, _, _, h, _, _ => h.elim
theorem tyd_get {S : List Int64} {T : List Nat} {k ty : Nat} {v : Int64} (h : tyd S T) (h1 : T[k]? = some ty) (h2 : S.reverse[k]? = some v) : can ty v := by
  have hl := h.len
  have hk := get_lt h1
  rw [List.getElem?_reverse (by omega)] at h2
  refine tyR_get h (k := S.length - 1 - k) ?_ h2
  rw [List.getElem?_reverse (by omega), show T.length - 1 - (S.length - 1 - k) = k by omega]
  exact h1
/-- a new CALL's locals -/
theorem new_lo {g : Nat} (h : okFn t n m g) {T : List Nat} (hS : tyd S (T ++ agL t (tyAt m (fnTy m g)) (tyAt m (fnTy m g)).2.1)) : loOk t m g ((S.take (tyAt m (fnTy m g)).2.1).reverse ++ List.replicate (fiAt m g).1.length 0) ∧ tyd (S.drop (tyAt m (fnTy m g)).2.1) T := by
  obtain ⟨s1, s2⟩ := tyd_app hS
  rw [agL_len] at s1 s2
  have hl1 := s1.len
  rw [agL_len] at hl1
  refine ⟨⟨?_, fun k v hk => ?_⟩, s2⟩
  · rw [List.length_append, List.length_reverse, hl1, List.length_replicate]
    rfl
  · unfold loTy
    by_cases z : k < (tyAt m (fnTy m g)).2.1
    · rw [if_pos z]
      rw [List.getElem?_append_left (by rw [List.length_reverse]; omega)] at hk
      exact tyd_get s1 (agL_get t _ _ k z) hk
    · rw [List.getElem?_append_right (by rw [List.length_reverse]; omega)] at hk
      have := List.getElem?_replicate.symm.trans hk
      split at this
      · cases this
        exact fun _ => c32_n (k := 0) (by decide)
      · cases this
end CTL
