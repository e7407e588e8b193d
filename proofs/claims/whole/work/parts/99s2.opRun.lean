/-! run -/
def runF (m : Md) (a0 : Int32) (f : Nat) : Prop := ∃ k x, (mdE m)[k]? = some x ∧ a0 = nI k ∧ x.2.2.1 = 0 ∧ x.2.2.2 = f ∧ f < (mdU m).length ∧ agN m f ≤ 8
def sRa (c j : Nat) : Bool := (Nat.beq c 0 && (Nat.beq j 15 || Nat.beq j 16 || Nat.beq j 17)) || sRg c j || sRf c j
theorem sRg_lo {c j : Nat} (h : sRg c j = true) : c = 56 ∧ (j = 4 ∨ (8 ≤ j ∧ j ≤ 16)) ∨ c = 57 ∨ c = 58 ∨ c = 60 ∨ c = 61 := by
  unfold sRg sRun at h
  simp only [Bool.or_eq_true, Bool.and_eq_true, Nat.beq_eq, Nat.ble_eq] at h
  omega
theorem sRf_lo {c j : Nat} (h : sRf c j = true) : c = 103 ∧ (j = 38 ∨ (40 ≤ j ∧ j ≤ 42) ∨ j = 62 ∨ (66 ≤ j ∧ j ≤ 77)) ∨ c = 146 ∨ c = 148 ∨ (150 ≤ c ∧ c ≤ 153) := by
  unfold sRf sRi at h
  simp only [Bool.or_eq_true, Bool.and_eq_true, Nat.beq_eq, Nat.ble_eq] at h
  omega
theorem sRa_not {c j : Nat} (h : ¬ ((c = 0 ∧ (j = 15 ∨ j = 16 ∨ j = 17)) ∨ (c = 56 ∧ (j = 4 ∨ (8 ≤ j ∧ j ≤ 16))) ∨ c = 57 ∨ c = 58 ∨ c = 60 ∨ c = 61 ∨ (c = 103 ∧ (j = 38 ∨ (40 ≤ j ∧ j ≤ 42) ∨ j = 62 ∨ (66 ≤ j ∧ j ≤ 77))) ∨ c = 146 ∨ c = 148 ∨ (150 ≤ c ∧ c ≤ 153))) : sRa c j = false := by
  cases hh : sRa c j
  · rfl
  · unfold sRa at hh
    rw [Bool.or_eq_true, Bool.or_eq_true] at hh
    rcases hh with (hh | hh) | hh
    · simp only [Bool.or_eq_true, Bool.and_eq_true, Nat.beq_eq] at hh
      omega
    · have := sRg_lo hh
      omega
    · have := sRf_lo hh
      omega
section OPRUN
variable {t : Nat → UInt8} {n b d f N : Nat} {m : Md} {σ σ' : fkS} {e : Env} {J : fkS → Prop} {P : Int32 → fkS → Prop} {a0 a1 : Int32}
theorem runF.one {f g : Nat} (hl : (mdE m).length ≤ 60) (h1 : runF m a0 f) (h2 : runF m a0 g) : f = g := by
  obtain ⟨k, x, hx, rfl, -, hf, -⟩ := h1
  obtain ⟨k2, x2, hx2, e2, -, hg, -⟩ := h2
  have h1 := get_lt hx
  have h2 := get_lt hx2
  have := (nI_eq (by omega) (by omega)).mp e2
  subst this
  rw [hx] at hx2
  cases hx2
  rw [← hf, ← hg]
/-- the class: what is asked first -/
theorem c_run (h03 : σ.2.2 0 3 = 4) (n1 : ¬ σ.1 0 5 = 0) (hok : okK t n m) (hY : DY t n m (rnS swM σ)) (h0 : (∀ f, ¬ runF m a0 f) → P (-1) σ) (h2 : ∀ f, runF m a0 f → (a1 < 0 ∨ ¬ a1 ≤ 20000) → P (-2) σ) (h4 : ∀ f N, runF m a0 f → a1 = nI N → N ≤ 20000 → Di d 105 [.ref 56, .int (nI f), .ref 2, .int (nI N)] σ (fun x8 σ7 => Qi P (some (.int x8)) (sI (sI (sL σ7 0 15 (σ7.2.1 56 16)) 0 16 (σ7.1 56 14)) 0 17 (σ7.1 56 15)))) : Ci (d + 1) 104 [.ref 0, .int a0, .int a1] σ P := by
  have l6 : (mdE m).length ≤ 60 := hok.1.2.2.2.2.2.1
  have e312 : σ.1 3 12 = nI (mdE m).length := hY.2.2.2.2.2.1.1
  refine S_X_run h03 ⟨fun z => absurd z n1, fun _ => ⟨fun z => h0 fun f hf => ?_, fun z => ⟨by decide, ?_⟩⟩⟩
  · obtain ⟨k, x, hx, rfl, -⟩ := hf
    have := get_lt hx
    exact absurd z (nI_pos (by omega))
  obtain ⟨k, hk, rfl⟩ := nI_of z
  rw [e312]
  refine pk_le (mdE m).length k (fun w => h0 fun f hf => ?_) fun w => ⟨by decide, ?_⟩
  · obtain ⟨k2, x, hx, e2, -⟩ := hf
    have h9 := get_lt hx
    have := (nI_eq (by omega) (by omega)).mp e2
    omega
  have hx : (mdE m)[k]? = some (mdE m)[k] := List.getElem?_eq_getElem w
  generalize (mdE m)[k] = x at hx
  have only : ∀ {f}, runF m (nI k) f → x.2.2.1 = 0 ∧ x.2.2.2 = f ∧ agN m f ≤ 8 := fun hf => by
    obtain ⟨k2, x2, hx2, e2, q1, q2, q3, q4⟩ := hf
    have h9 := get_lt hx2
    have := (nI_eq (by omega) (by omega)).mp e2
    subst this
    rw [hx] at hx2
    cases hx2
    exact ⟨q1, q2, q4⟩
  obtain ⟨g1, g2, g3⟩ := hok.ex hx
  refine (c_kindOf hok hY hx).mono fun y σ1 hy => ?_
  obtain ⟨r, rfl, eq1, hr, hs⟩ := Qi_s hy
  subst hr
  refine ⟨eq1, ?_⟩
  simp only [sW_eq eq1]
  rw [hs]
  refine pk_eq x.2.2.1 0 (fun y => ⟨by decide, ?_⟩) (fun y => h0 fun f hf => y (only hf).1) (ha := by omega) (hb := by decide)
  have hnum : x.2.2.2 < (mdU m).length := by
    rw [y] at g3
    exact g3
  have l2 : (mdU m).length ≤ 60 := hok.1.2.1
  obtain ⟨p1, p2, p3⟩ := hok.fn hnum
  refine (c_numberOf hok hY hx).mono fun y σ2 hy => ?_
  obtain ⟨r, rfl, eq2, hr, hs2⟩ := Qi_s hy
  subst hr
  refine ⟨eq2, ?_⟩
  simp only [sW_eq eq2]
  rw [hs2]
  have k6 : σ.1 6 x.2.2.2 = nI (fnTy m x.2.2.2) := hY.2.1.2 _ _ p1
  rw [nI_clamp (n := x.2.2.2) (by omega), k6]
  refine ⟨by decide, by decide, vp_in_nI (by omega) (by decide), ?_⟩
  refine (c_argsOf hok hY p2).mono fun y σ3 hy => ?_
  obtain ⟨r, rfl, eq3, hr, hs3⟩ := Qi_s hy
  subst hr
  refine ⟨eq3, ?_⟩
  simp only [sW_eq eq3]
  rw [hs3]
  have ha60 : (tyAt m (fnTy m x.2.2.2)).2.1 ≤ 60 := p3.1
  refine pk_le (tyAt m (fnTy m x.2.2.2)).2.1 8 (fun w8 => ?_) (fun w8 => h0 fun f hf => ?_) (hb := by decide)
  · have hr : runF m (nI k) x.2.2.2 := ⟨k, x, hx, rfl, y, rfl, hnum, w8⟩
    refine ⟨fun z => h2 _ hr (.inl z), fun z => ⟨fun z2 => ?_, fun z2 => h2 _ hr (.inr z2)⟩⟩
    obtain ⟨N, hN, rfl⟩ := nI_of2 (n := 20000) (M := 20000) rfl z z2
    refine (h4 _ N hr rfl hN).mono fun y σ4 hy => ?_
    obtain ⟨r, rfl, eq4, hp⟩ := Qi_s hy
    refine ⟨eq4, ?_⟩
    simp only [sW_eq eq4]
    exact hp
  · obtain ⟨-, q2, q4⟩ := only hf
    rw [← q2] at q4
    have : agN m x.2.2.2 = (tyAt m (fnTy m x.2.2.2)).2.1 := rfl
    omega
/-- the reference: what is asked first -/
theorem m_run (n2 : ¬ σ.1 103 39 = 0) (hok : okK t n m) (hb : b < 2) (h37 : σ.1 103 37 = nI b) (hM : MX t b m σ) (h0 : (∀ f, ¬ runF m a0 f) → P (-1) σ) (h2 : ∀ f, runF m a0 f → (a1 < 0 ∨ ¬ a1 ≤ 20000) → P (-2) σ) (h4 : ∀ f N, runF m a0 f → a1 = nI N → N ≤ 20000 → Wq 296 (d + 1) 151 [some (.ref 103), none, none, some (.int (nI f)), some (.int (nI (60 * b + fnTy m f))), some (.int (0 : Int32))] [] (sI (sI (sI (sI (sI (sI (sI (sI (sI (sI σ 103 38 (nI b)) 103 42 (0 : Int32)) 103 41 (4000 : Int32)) 103 66 (0 : Int32)) 103 67 (nI N)) 103 68 (0 : Int32)) 103 69 (0 : Int32)) 103 70 (0 : Int32)) 103 74 (0 : Int32)) 103 71 (0 : Int32)) (Qi P)) : Ci (d + 1) 296 [.ref 103, .int a0, .int a1] σ P := by
  have l6 : (mdE m).length ≤ 60 := hok.1.2.2.2.2.2.1
  have e114 : σ.1 114 b = nI (mdE m).length := hM.2.2.2.2.2.1.2
  refine S_M_run ⟨fun z => absurd z n2, fun _ => ⟨by rw [h37]; exact vp_in_nI hb (by decide), ?_⟩⟩
  rw [h37, nI_clamp (n := b) (by omega), e114]
  refine (m_isIn (by omega)).mono fun y σ1 hy => ?_
  obtain ⟨r, rfl, hs, hr⟩ := Qi_s hy
  show (_ → _) ∧ _
  rw [hs]
  rcases hr with ⟨rfl, hr⟩ | ⟨k, hk, rfl, rfl⟩
  · refine ⟨fun _ => h0 fun f hf => ?_, fun z => absurd rfl z⟩
    obtain ⟨k, x, hx, e2, -⟩ := hf
    exact hr k (get_lt hx) e2
  have hx : (mdE m)[k]? = some (mdE m)[k] := List.getElem?_eq_getElem hk
  generalize (mdE m)[k] = x at hx
  have only : ∀ {f}, runF m (nI k) f → x.2.2.1 = 0 ∧ x.2.2.2 = f ∧ agN m f ≤ 8 := fun hf => by
    obtain ⟨k2, x2, hx2, e2, q1, q2, q3, q4⟩ := hf
    have h9 := get_lt hx2
    have := (nI_eq (by omega) (by omega)).mp e2
    subst this
    rw [hx] at hx2
    cases hx2
    exact ⟨q1, q2, q4⟩
  obtain ⟨g1, g2, g3⟩ := hok.ex hx
  have q131 : σ.1 131 (60 * b + k) = nI x.2.2.1 := (hM.2.2.2.2.2.1.1 k x hx).2.2.1
  have q123 : σ.2.1 123 (60 * b + k) = lN x.2.2.2 := (hM.2.2.2.2.2.1.1 k x hx).2.2.2
  have vk : vp_in (nI (60 * b + k)) 120 := vp_in_nI (by omega) (by decide)
  rw [h37, ex, nI_clamp (n := 60 * b + k) (by omega), q131, q123, lN_i32]
  refine ⟨fun z => absurd z (by decide), fun _ => ⟨vk, pk_eq x.2.2.1 0 (fun y => ⟨vk, ?_⟩) (fun y => h0 fun f hf => y (only hf).1) (ha := by omega) (hb := by decide)⟩⟩
  have hnum : x.2.2.2 < (mdU m).length := by
    rw [y] at g3
    exact g3
  obtain ⟨p1, p2, p3⟩ := hok.fn hnum
  have l1 : (mdT m).length ≤ 60 := hok.1.1
  have hr : rTM t (60 * b + fnTy m x.2.2.2) (tyAt m (fnTy m x.2.2.2)) σ := (hM.1.1 _ _ (tyAt_get p2)).2
  refine (m_typeOf hok hb h37 hM hnum).mono fun u σ2 hu => ?_
  obtain ⟨r, rfl, hr2, hs2⟩ := Qi_s hu
  subst hr2
  show _ ∧ _
  rw [hs2, nI_clamp (n := 60 * b + fnTy m x.2.2.2) (by omega), hr.1, h37]
  have ha60 : (tyAt m (fnTy m x.2.2.2)).2.1 ≤ 60 := p3.1
  refine ⟨vp_in_nI (by omega) (by decide), pk_le (tyAt m (fnTy m x.2.2.2)).2.1 8 (fun w8 => ?_) (fun w8 => h0 fun f hf => ?_) (hb := by decide)⟩
  · have hr : runF m (nI k) x.2.2.2 := ⟨k, x, hx, rfl, y, rfl, hnum, w8⟩
    refine ⟨fun z => h2 _ hr (.inl z), fun z => ⟨fun z2 => ?_, fun z2 => h2 _ hr (.inr z2)⟩⟩
    obtain ⟨N, hN, rfl⟩ := nI_of2 (n := 20000) (M := 20000) rfl z z2
    exact h4 _ N hr rfl hN
  · obtain ⟨-, q2, q4⟩ := only hf
    rw [← q2] at q4
    have : agN m x.2.2.2 = (tyAt m (fnTy m x.2.2.2)).2.1 := rfl
    omega
end OPRUN
