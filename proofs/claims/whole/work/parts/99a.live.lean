/-! RUNNING: what the judge's state says where a run comes to -/
/-- a run may come here: nothing open is dead, each type is known -/
def lv (J : JS) : Prop := jok J ∧ jG J = true ∧ 0 < (jB J).length ∧ (∀ b ∈ jB J, bkD b = false) ∧ ∀ x ∈ jT J, isT x
theorem isT_ne {x : Nat} (h : isT x) : x ≠ 0 := by
  rcases h with rfl | rfl <;> decide
section LIVE
variable {J K : JS} {due ty : Nat}
theorem lv.top (h : lv J) : ∃ b, jTop J = some b ∧ bkD b = false ∧ bkF b ≤ (jT J).length ∧ b ∈ jB J := by
  obtain ⟨h1, h2, h3, h4, h5⟩ := h
  obtain ⟨L, b, a1, a2, a3⟩ := top_some h3
  have hm := List.mem_of_getElem? a2
  exact ⟨b, a3, h4 b hm, (h1.2.2.2.1 L b a2).1, hm⟩
theorem lv.pop (h : lv J) (hg : jG (jPop due J).2 = true) : ∃ T ty b, jTop J = some b ∧ jT J = T ++ [ty] ∧ isT ty ∧ (due ≠ 0 → ty = due) ∧ jPop due J = (ty, (T, jB J, true)) ∧ bkF b ≤ T.length ∧ lv (T, jB J, true) := by
  obtain ⟨b, b1, b2, b3, b4⟩ := h.top
  have hok := h.1.pop (due := due)
  obtain ⟨h1, h2, h3, h4, h5⟩ := h
  by_cases hz : bkF b < (jT J).length
  · have e := jPop_some (due := due) b1 hz
    obtain ⟨n, hn⟩ : ∃ n, (jT J).length = n + 1 := ⟨(jT J).length - 1, by omega⟩
    have hlt : n < (jT J).length := by omega
    have hT : jT J = (jT J).take n ++ [(jT J)[n]] := by
      rw [List.take_append_getElem hlt, ← hn, List.take_length]
    have hv : jVal J = (jT J)[n] := by
      unfold jVal
      rw [hn, Nat.add_sub_cancel, List.getElem?_eq_getElem hlt]
      rfl
    have ht : isT (jVal J) := by rw [hv]; exact h5 _ (List.getElem_mem hlt)
    have hne := isT_ne ht
    have e1 : (jT J).take ((jT J).length - 1) = (jT J).take n := by rw [hn, Nat.add_sub_cancel]
    rw [if_neg hne, e1] at e
    rw [e] at hg hok ⊢
    have hg' : (jG J && (decide (jVal J = 0) || decide (due = 0) || decide (jVal J = due))) = true := hg
    have hg2 := hg'
    rw [Bool.and_eq_true, Bool.or_eq_true, Bool.or_eq_true, decide_eq_true_iff, decide_eq_true_iff, decide_eq_true_iff] at hg2
    rw [hg'] at hok ⊢
    refine ⟨(jT J).take n, jVal J, b, b1, by rw [hv]; exact hT, ht, fun hd => ?_, rfl, ?_, hok, rfl, h3, h4, fun x hx => h5 x (List.mem_of_mem_take hx)⟩
    · rcases hg2.2 with (w | w) | w
      · exact absurd w hne
      · exact absurd w hd
      · exact w
    · rw [List.length_take]
      omega
  · have e := jPop_floor (due := due) b1 hz
    rw [e] at hg
    have : (jG J && bkD b) = true := hg
    rw [b2, Bool.and_false] at this
    cases this
theorem lv.push (h : lv J) (ht : isT ty) (hl : (jT J).length ≤ 4000) : jPush ty J = (jT J ++ [ty], jB J, true) ∧ lv (jT J ++ [ty], jB J, true) := by
  have hok := h.1.push (ty := ty) ht.lt
  obtain ⟨h1, h2, h3, h4, h5⟩ := h
  have e : jPush ty J = (jT J ++ [ty], jB J, true) := by
    unfold jPush
    rw [if_pos (by omega), h2]
  rw [e] at hok
  refine ⟨e, hok, rfl, h3, h4, fun x hx => ?_⟩
  rcases List.mem_append.mp hx with z | z
  · exact h5 x z
  · rw [List.mem_singleton.mp z]
    exact ht
/-- what an INSTRUCTION takes and puts: types, the last on top -/
def eff (J : JS) (as : List Nat) (K : JS) (rs : List Nat) : Prop := ∃ T, jT J = T ++ as ∧ K = (T ++ rs, jB J, true) ∧ lv K
theorem eff_lv (h : eff J [] K []) : lv K := h.choose_spec.2.2
theorem lv.eff0 (h : lv J) : eff J [] J [] := ⟨jT J, (List.append_nil _).symm, by
  rw [List.append_nil, ← h.2.1]
  rfl, h⟩
theorem eff_pop1 {as : List Nat} (h : eff J as K []) (hd : due ≠ 0) (hg : jG (jPop due K).2 = true) : eff J (due :: as) (jPop due K).2 [] := by
  obtain ⟨T, h1, h2, h3⟩ := h
  obtain ⟨T2, ty, b, a1, a2, a3, a4, a5, a6, a7⟩ := h3.pop hg
  have e : jT K = T := by rw [h2]; exact List.append_nil _
  rw [e, a4 hd] at a2
  refine ⟨T2, by rw [h1, a2, List.append_assoc]; rfl, ?_, ?_⟩
  · rw [a5, List.append_nil]
    show (T2, jB K, true) = _
    rw [h2]
    rfl
  · rw [a5]
    exact a7
theorem eff_pop0 {as : List Nat} (h : eff J as K []) (hg : jG (jPop 0 K).2 = true) : ∃ ty, isT ty ∧ (jPop 0 K).1 = ty ∧ eff J (ty :: as) (jPop 0 K).2 [] := by
  obtain ⟨T, h1, h2, h3⟩ := h
  obtain ⟨T2, ty, b, a1, a2, a3, a4, a5, a6, a7⟩ := h3.pop hg
  have e : jT K = T := by rw [h2]; exact List.append_nil _
  rw [e] at a2
  refine ⟨ty, a3, by rw [a5], T2, by rw [h1, a2, List.append_assoc]; rfl, ?_, ?_⟩
  · rw [a5, List.append_nil]
    show (T2, jB K, true) = _
    rw [h2]
    rfl
  · rw [a5]
    exact a7
theorem eff_push {as : List Nat} (h : eff J as K []) (ht : isT ty) (hl : (jT J).length ≤ 4000) : eff J as (jPush ty K) [ty] := by
  obtain ⟨T, h1, h2, h3⟩ := h
  have e : jT K = T := by rw [h2]; exact List.append_nil _
  have hl2 : (jT K).length ≤ 4000 := by
    rw [e]
    rw [h1, List.length_append] at hl
    omega
  obtain ⟨a1, a2⟩ := h3.push ht hl2
  have eB : jB K = jB J := by rw [h2]; rfl
  rw [e, eB] at a1 a2
  exact ⟨T, h1, a1, by rw [a1]; exact a2⟩
theorem jAnd_g {g : Bool} (hg : jG (jAnd J g) = true) : jAnd J g = J ∧ g = true := by
  have h : (jG J && g) = true := hg
  rw [Bool.and_eq_true] at h
  refine ⟨?_, h.2⟩
  unfold jAnd
  rw [h.2, Bool.and_true]
  rfl
theorem eff_turn {a tm b : Nat} (h : lv J) (ha : isT a) (hb : isT b) (hl : (jT J).length ≤ 4000) (hg : jG (jTurn a tm b J) = true) : eff J (if tm = 1 then [a] else [a, a]) (jTurn a tm b J) [b] := by
  unfold jTurn at hg ⊢
  rw [jG_push] at hg
  by_cases z : tm = 1
  · rw [if_pos z] at hg
    rw [if_pos z, if_pos z]
    exact eff_push (eff_pop1 h.eff0 (isT_ne ha) hg) hb hl
  · rw [if_neg z] at hg
    rw [if_neg z, if_neg z]
    exact eff_push (eff_pop1 (eff_pop1 h.eff0 (isT_ne ha) (jG_pop hg)) (isT_ne ha) hg) hb hl
/-! values by their types, the top one first -/
def tyR : List Int64 → List Nat → Prop
  | [], [] => True
  | v :: s, ty :: T => can ty v ∧ tyR s T
  | _, _ => False
theorem tyR.len : ∀ {s : List Int64} {T : List Nat}, tyR s T → s.length = T.length
  | [], [], _ => rfl
  | _ :: _, _ :: _, h => congrArg (· + 1) h.2.len
  | [], _ :: _, h => h.elim
  | _ :: _, [], h => h.elim
theorem tyR.drop : ∀ {s : List Int64} {T : List Nat} (k : Nat), tyR s T → tyR (s.drop k) (T.drop k)
  | s, T, 0, h => h
  | [], [], _ + 1, _ => trivial
  | _ :: _, _ :: _, k + 1, h => h.2.drop k
  | [], _ :: _, _ + 1, h => h.elim
  | _ :: _, [], _ + 1, h => h.elim
/-- types with the last on top -/
def tyd (s : List Int64) (T : List Nat) : Prop := tyR s T.reverse
theorem tyd.len {s : List Int64} {T : List Nat} (h : tyd s T) : s.length = T.length := by
  rw [tyR.len h, List.length_reverse]
theorem tyd_nil : tyd [] [] := trivial
theorem tyd.snoc {s : List Int64} {T : List Nat} {v : Int64} (h : tyd s T) (hv : can ty v) : tyd (v :: s) (T ++ [ty]) := by
  unfold tyd
  rw [List.reverse_append]
  exact ⟨hv, h⟩
theorem tyd.un {s : List Int64} {T : List Nat} (h : tyd s (T ++ [ty])) : ∃ v s2, s = v :: s2 ∧ can ty v ∧ tyd s2 T := by
  unfold tyd at h
  rw [List.reverse_append] at h
  cases s with
  | nil => exact h.elim
  | cons v s2 => exact ⟨v, s2, rfl, h.1, h.2⟩
theorem tyd.take {s : List Int64} {T : List Nat} {k : Nat} (h : tyd s T) (hk : k ≤ T.length) : tyd (s.drop (s.length - k)) (T.take k) := by
  have hl := h.len
  have h2 := tyR.drop (s.length - k) h
  unfold tyd
  have e : T.reverse.drop (s.length - k) = (T.take k).reverse := by
    rw [List.drop_reverse, hl]
    congr 2
    omega
  rwa [e] at h2
theorem tyd.un2 {s : List Int64} {T : List Nat} {ta tb : Nat} (h : tyd s (T ++ [ta, tb])) : ∃ b a s2, s = b :: a :: s2 ∧ can tb b ∧ can ta a ∧ tyd s2 T := by
  rw [show T ++ [ta, tb] = (T ++ [ta]) ++ [tb] by rw [List.append_assoc]; rfl] at h
  obtain ⟨b, s1, rfl, hb, h⟩ := h.un
  obtain ⟨a, s2, rfl, ha, h⟩ := h.un
  exact ⟨b, a, s2, rfl, hb, ha, h⟩
theorem can_64 {v : Int64} : can 126 v := fun h => absurd h (by decide)
theorem can_i {a : Int32} {ty : Nat} : can ty a.toInt64 := fun _ => c32_i a
end LIVE
