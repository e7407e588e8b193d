/-! A RUN, the class -/
theorem ite_f {α : Type} {c : Prop} [Decidable c] {a b : Nat × α} {k : Nat} (ha : a.1 ≤ k) (hb : b.1 ≤ k) : (if c then a else b).1 ≤ k := by
  split
  · exact ha
  · exact hb
theorem ite_t {c : Prop} [Decidable c] {a b : St} {k : Nat} (ha : sT a ≤ k) (hb : sT b ≤ k) : sT (if c then a else b) ≤ k := by
  split
  · exact ha
  · exact hb
theorem i32B_t {k : Nat} {x y : Int32} : (i32B k x y).1 ≤ 3 := by
  unfold i32B
  refine ite_f (Nat.zero_le _) (ite_f (Nat.zero_le _) (ite_f (Nat.zero_le _) (ite_f (ite_f (by decide) (ite_f (by decide) (Nat.zero_le _))) (Nat.zero_le _))))
theorem i64B_t {k : Nat} {x y : Int64} : (i64B k x y).1 ≤ 3 := by
  unfold i64B
  refine ite_f (Nat.zero_le _) (ite_f (Nat.zero_le _) (ite_f (Nat.zero_le _) (ite_f (ite_f (by decide) (ite_f (by decide) (Nat.zero_le _))) (Nat.zero_le _))))
theorem xB_t {op : Nat} {a b : Int64} : (xB op a b).1 ≤ 4 := by
  unfold xB
  refine ite_f (Nat.zero_le _) (ite_f (Nat.zero_le _) (ite_f ?_ ?_))
  · exact Nat.le_trans i32B_t (by decide)
  · exact Nat.le_trans i64B_t (by decide)
theorem dop_t {m : Md} {I : In} {L S : List Int64} {e : Env} : (dop m I L S e).1 ≤ 4 := by
  have hx := xB_t (op := iOp I) (a := (S.drop 1).headD 0) (b := S.headD 0)
  unfold dop
  refine ite_f (Nat.zero_le _) (ite_f (Nat.zero_le _) (ite_f ?_ (ite_f (Nat.zero_le _) (ite_f (Nat.zero_le _) (ite_f (Nat.zero_le _) (ite_f (Nat.zero_le _) (ite_f (Nat.zero_le _) (ite_f (ite_f (Nat.zero_le _) (Nat.le_refl _)) (ite_f (ite_f (Nat.zero_le _) (Nat.le_refl _)) (ite_f (Nat.zero_le _) (ite_f (ite_f (Nat.zero_le _) (Nat.zero_le _)) (ite_f (Nat.zero_le _) (ite_f (Nat.zero_le _) hx)))))))))))))
  split <;> exact Nat.zero_le _
theorem aLv_t {m : Md} {s : St} (h : sT s ≤ 8) : sT (aLv m s) ≤ 8 := by
  unfold aLv
  split
  · exact h
  · exact h
  · exact h
theorem aEn_t {m : Md} {g : Nat} {s : St} (h : sT s ≤ 8) : sT (aEn m g s) ≤ 8 := by
  unfold aEn
  split
  · exact Nat.le_refl _
  split
  · exact h
  · exact h
theorem aBr_t {m : Md} {J : JS} {lab : Nat} {s : St} (h : sT s ≤ 8) : sT (aBr m J lab s) ≤ 8 := by
  unfold aBr
  split
  · exact h
  split
  · exact h
  split
  · exact aLv_t h
  · exact h
theorem aX_t {t : Nat → UInt8} {m : Md} {J : JS} {i : Nat} {I : In} {s : St} (h : sT s ≤ 8) : sT (aX t m J i I s) ≤ 8 := by
  unfold aX
  split
  · exact h
  · exact ite_t (show 1 ≤ 8 by decide) (ite_t h (ite_t (ite_t h h) (ite_t (aBr_t h) (ite_t (ite_t h (aBr_t h)) (ite_t (aBr_t h) (ite_t (aLv_t h) (ite_t (aEn_t h) (ite_t (ite_t (show 5 ≤ 8 by decide) (ite_t (show 6 ≤ 8 by decide) (ite_t (show 7 ≤ 8 by decide) (aEn_t h)))) (Nat.le_trans dop_t (by decide))))))))))
theorem aS_t {t : Nat → UInt8} {m : Md} {N : Nat} {s : St} (h : sT s ≤ 8) : sT (aS t m N s) ≤ 8 := by
  unfold aS
  split
  · exact h
  · refine ite_t h ?_
    split
    · exact h
    · exact ite_t (ite_t (aLv_t h) h) (ite_t h (ite_t h (aX_t h)))
/-- an ARGUMENT as a run takes it; all of them, the last on top -/
def agV (t : Nat → UInt8) (x : Ty) (a : Nat → Int64) (k : Nat) : Int64 := if (t (x.1 + k)).toNat = 127 then (a k).toInt32.toInt64 else a k
def agS (t : Nat → UInt8) (x : Ty) (a : Nat → Int64) : Nat → List Int64
  | 0 => []
  | k + 1 => agV t x a k :: agS t x a k
theorem agS_len {t : Nat → UInt8} {x : Ty} {a : Nat → Int64} : ∀ k, (agS t x a k).length = k
  | 0 => rfl
  | k + 1 => by rw [agS, List.length_cons, agS_len k]
theorem agS_ty {t : Nat → UInt8} {x : Ty} {a : Nat → Int64} : ∀ k, tyd (agS t x a k) (agL t x k)
  | 0 => trivial
  | k + 1 => by
    rw [agS, agL]
    refine (agS_ty k).snoc fun z => ?_
    unfold agV
    rw [if_pos z]
    exact c32_i _
/-- where a run begins -/
def rn0 (t : Nat → UInt8) (m : Md) (f : Nat) (a : Nat → Int64) (e : Env) : St := ([], agS t (tyAt m (fnTy m f)) a (agN m f), e, 0, 0, false)
section RUNX
variable {t : Nat → UInt8} {n d f f0 g i j k l tk N v4 T : Nat} {m : Md} {σ σ' : fkS} {L S R A B : List Int64} {e : Env} {sp : Bool} {fs : List Fm} {a : Nat → Int64} {Q : fkS → Prop} {QQ : Option Value → fkS → Prop}
theorem rn_RI (hf : okFn t n m f) (ha : agN m f ≤ 8) (he : evOk m e) : RI t n m N f (aEn m f (rn0 t m f a e)) := by
  have hl0 : (fiAt m f).1.length ≤ 50 := (hf.F.2.2.2 _ (List.mem_of_getElem? (fiAt_get hf.fl))).1
  have hE := hf.fF.1
  have hS : tyd (agS t (tyAt m (fnTy m f)) a (agN m f)) ([] ++ agL t (tyAt m (fnTy m f)) (tyAt m (fnTy m f)).2.1) := agS_ty _
  have hn := new_lo hf hS
  have hln : (agS t (tyAt m (fnTy m f)) a (agN m f)).length = agN m f := agS_len _
  refine ⟨fun w => (by cases w), ⟨⟨hf, Nat.le_refl _, hE, ?_, hn.1, [], ?_, trivial⟩, trivial⟩, ⟨?_, trivial⟩, ?_, by show 1 ≤ 64; decide, he, Nat.zero_le _, rfl, rfl, rfl⟩
  · have h0 := hf.jo (Nat.le_refl _) hE
    have e0 := hf.st0
    show lv (jAt t m f (fiS (fiAt m f)))
    rw [e0] at h0 ⊢
    refine ⟨h0, rfl, Nat.zero_lt_one, fun b hb => ?_, fun x hx => by cases hx⟩
    rw [List.mem_singleton.mp hb]
    rfl
  · show jT (jAt t m f (fiS (fiAt m f))) = _
    rw [hf.st0]
    rfl
  · show ([] ++ ((((agS t (tyAt m (fnTy m f)) a (agN m f)).take (tyAt m (fnTy m f)).2.1).reverse ++ List.replicate (fiAt m f).1.length 0).reverse ++ [])).length ≤ 8 + 0 + 50 * (0 + 1)
    rw [List.nil_append, List.append_nil, List.length_reverse, List.length_append, List.length_reverse, List.length_take, List.length_replicate]
    omega
  · show (agS t (tyAt m (fnTy m f)) a (agN m f)).drop (tyAt m (fnTy m f)).2.1 = []
    exact List.drop_eq_nil_of_le (Nat.le_of_eq hln)
theorem w_exit {s : St} (hX : SX t n m σ) (h : PX m s σ) (ht8 : sT s ≤ 8) (hs : stop s) (h230 : Wq 105 (d + 1) 230 [some (.ref 56), none, none, none, some (.int (nI v4)), some (.int (nI (if sS s = true then 1 else 0))), none, none] [] σ QQ) : W3 d N v4 (if sS s = true then 1 else 0) T σ QQ := by
  refine S_Machine_start_123 hX.2.2.2.2.1 ⟨fun _ => h230, fun _ => ?_⟩
  have hg : Di d 108 [.ref 56] σ (fun x σ' => σ' = σ ∧ (sF s = [] ∨ sT s ≠ 0 → x = 0)) := by
    refine S_Machine_going (Q := Qi _) hX.2.2.2.2.1 ⟨fun _ => ⟨rfl, rfl, fun _ => rfl⟩, fun z1 => ⟨fun _ => ⟨rfl, rfl, fun _ => rfl⟩, fun z2 => ?_⟩⟩
    have hno : ¬ (sF s = [] ∨ sT s ≠ 0) := fun y => by
      have k15 : sT s = 0 := by
        rw [h.2.2.1] at z2
        exact (nI_eq (b := 0) (by omega) (by decide)).mp z2
      rcases y with y | y
      · have := (h.2.2.2 k15).2.2
        rw [y] at this
        have : σ.1 56 10 = 0 := this
        rw [this] at z1
        exact z1 (by decide)
      · exact y k15
    exact ⟨fun _ => ⟨rfl, rfl, fun y => absurd y hno⟩, fun _ => ⟨by decide, fun _ => ⟨rfl, rfl, fun y => absurd y hno⟩, fun _ => ⟨rfl, rfl, fun y => absurd y hno⟩⟩⟩
  refine hg.mono fun z σ1 hz => ?_
  obtain ⟨x, rfl, e, hs1, hx⟩ := Qi_s hz
  rw [hs1]
  simp only [sW_eq (rfl : σ.2.2 = σ.2.2)]
  refine ⟨rfl, fun _ => h230, fun z => ⟨fun _ => h230, fun z5 => ?_⟩⟩
  rcases hs with y | y | y
  · exact absurd (hx (.inl y)) z
  · exact absurd (hx (.inr y)) z
  · rw [y] at z5
    exact absurd z5 (by decide)
/-- the loop -/
theorem w_run (hN : N ≤ 20000) : ∀ (r T : Nat) (s : St) (σ : fkS), SX t n m σ → RI t n m N f0 s → PX m s σ → sT s ≤ 8 → mu t m N s ≤ r → T + mu t m N s + 2 ≤ 1000000 → (∀ k s' σ', s' = aIt t m N k s → RE m N f0 s' → sT s' ≤ 8 → σ'.2.2 = σ.2.2 → Fr sRun σ σ' → SX t n m σ' → PX m s' σ' → Wq 105 (d + 6) 230 [some (.ref 56), none, none, none, some (.int (nI v4)), some (.int (nI (if sS s' = true then 1 else 0))), none, none] [] σ' QQ) → W3 (d + 5) N v4 0 T σ QQ
  | r, T, s, σ, hX, hR, hP, ht, hm, hT, hk => by
    refine sim_X hX hR hN hP (by omega) fun dt σ1 h1 h2 hmu e1 f1 p1 => ?_
    rcases step_RI hR with hR1 | hE1
    · have hsS : sS (aS t m N s) = false := hR1.2.2.2.2.2.2.2.2.1
      have h9 := hmu hR1
      rw [if_neg (by rw [hsS]; decide)]
      match r, hm, hT with
      | 0, hm, hT => omega
      | r + 1, hm, hT =>
        refine w_run hN r (T + dt) (aS t m N s) σ1 (hX.fr f1) hR1 p1 (aS_t ht) (by omega) (by omega) fun k s' σ' hs' hE ht8 e2 f2 hX2 p2 => ?_
        exact hk (k + 1) s' σ' hs' hE ht8 (e2.trans e1) (f1.tr f2) hX2 p2
    · exact w_exit (hX.fr f1) p1 (aS_t ht) hE1.1 (hk 1 _ σ1 rfl hE1 (aS_t ht) e1 f1 (hX.fr f1) p1)
end RUNX
