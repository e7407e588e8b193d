/-! export -/
def exF (t : Nat → UInt8) (m : Md) (x : Ex) (a : Int) : Int32 :=
  if a < -2 then -9 else if a < 0 then (if x.2.2.1 = 0 then (if a = -1 then nI (tyAt m (fnTy m x.2.2.2)).2.1 else nI (tyAt m (fnTy m x.2.2.2)).2.2) else -9)
  else if a = 0 then nI x.2.2.1 else if a = 1 then nI x.2.2.2 else if a = 2 then nI x.2.1 else if a - 3 < x.2.1 then bI (t (x.1 + (a - 3).toNat)) else -9
section EXPORT
variable {t : Nat → UInt8} {n b d : Nat} {m : Md} {σ : fkS} {J : fkS → Prop}
theorem okK.ex {k : Nat} {x : Ex} (hok : okK t n m) (hx : (mdE m)[k]? = some x) : x.1 + x.2.1 ≤ n ∧ x.2.2.1 ≤ 3 ∧ x.2.2.2 < thN m x.2.2.1 := by
  obtain ⟨f1, f2, f3⟩ := hok.2.1.2.2.2.2.2.1 x (List.mem_of_getElem? hx)
  obtain ⟨v1, v2, v3, v4, v5, v6, v7, -⟩ := vd_facts hok.2.2.2.2.1
  have := List.all_eq_true.mp v7 k (List.mem_range.mpr (get_lt hx))
  unfold vE1 at this
  rw [Bool.and_eq_true, decide_eq_true_iff] at this
  have e : exAt m k = x := by
    unfold exAt
    rw [hx]
    rfl
  rw [e] at this
  exact ⟨f1, f2, this.1⟩
theorem okK.fn {f : Nat} (hok : okK t n m) (hf : f < (mdU m).length) : (mdU m)[f]? = some (fnTy m f) ∧ fnTy m f < (mdT m).length ∧ fT t n (tyAt m (fnTy m f)) := by
  obtain ⟨v1, -⟩ := vd_facts hok.2.2.2.2.1
  have hty := vTy_get v1 hf
  refine ⟨?_, hty, hok.2.1.1 _ (List.mem_of_getElem? (tyAt_get hty))⟩
  unfold fnTy
  rw [List.getElem?_eq_getElem hf]
  rfl
theorem c_kindOf {k : Nat} {x : Ex} (hok : okK t n m) (hY : DY t n m (rnS swM σ)) (hx : (mdE m)[k]? = some x) : Di d 63 [.ref 3, .int (nI k)] σ (fun r σ' => r = nI x.2.2.1 ∧ σ' = σ) := by
  have hk := get_lt hx
  have l6 : (mdE m).length ≤ 60 := hok.1.2.2.2.2.2.1
  have e4 : (4 : Int32) * nI k + (2 : Int32) = nI (4 * k + 2) := by rw [show (4 : Int32) = nI 4 from rfl, show (2 : Int32) = nI 2 from rfl, nI_mul, nI_add]
  have h11 : σ.1 11 (4 * k + 2) = nI x.2.2.1 := (hY.2.2.2.2.2.1.2 k x hx).2.2.1
  refine S_ModuleRows_kindOf ?_
  rw [e4, nI_clamp (n := 4 * k + 2) (by omega), h11]
  exact ⟨vp_in_nI (by omega) (by decide), rfl, rfl, rfl⟩
theorem c_numberOf {k : Nat} {x : Ex} (hok : okK t n m) (hY : DY t n m (rnS swM σ)) (hx : (mdE m)[k]? = some x) : Di d 62 [.ref 3, .int (nI k)] σ (fun r σ' => r = nI x.2.2.2 ∧ σ' = σ) := by
  have hk := get_lt hx
  have l6 : (mdE m).length ≤ 60 := hok.1.2.2.2.2.2.1
  have e4 : (4 : Int32) * nI k + (3 : Int32) = nI (4 * k + 3) := by rw [show (4 : Int32) = nI 4 from rfl, show (3 : Int32) = nI 3 from rfl, nI_mul, nI_add]
  have h11 : σ.1 11 (4 * k + 3) = nI x.2.2.2 := (hY.2.2.2.2.2.1.2 k x hx).2.2.2
  refine S_ModuleRows_numberOf ?_
  rw [e4, nI_clamp (n := 4 * k + 3) (by omega), h11]
  exact ⟨vp_in_nI (by omega) (by decide), rfl, rfl, rfl⟩
theorem c_argsOf {k : Nat} (hok : okK t n m) (hY : DY t n m (rnS swM σ)) (hk : k < (mdT m).length) : Di d 86 [.ref 3, .int (nI k)] σ (fun r σ' => r = nI (tyAt m k).2.1 ∧ σ' = σ) := by
  have l6 : (mdT m).length ≤ 60 := hok.1.1
  have e4 : (3 : Int32) * nI k + (1 : Int32) = nI (3 * k + 1) := by rw [show (3 : Int32) = nI 3 from rfl, nI_mul, nI_1]
  have h5 : σ.1 5 (3 * k + 1) = nI (tyAt m k).2.1 := (hY.1.2 k _ (tyAt_get hk)).2.1
  refine S_ModuleRows_argumentsOf ?_
  rw [e4, nI_clamp (n := 3 * k + 1) (by omega), h5]
  exact ⟨vp_in_nI (by omega) (by decide), rfl, rfl, rfl⟩
theorem c_givenBy {k : Nat} (hok : okK t n m) (hY : DY t n m (rnS swM σ)) (hk : k < (mdT m).length) : Di d 68 [.ref 3, .int (nI k)] σ (fun r σ' => r = nI (tyAt m k).2.2 ∧ σ' = σ) := by
  have l6 : (mdT m).length ≤ 60 := hok.1.1
  have e4 : (3 : Int32) * nI k + (2 : Int32) = nI (3 * k + 2) := by rw [show (3 : Int32) = nI 3 from rfl, show (2 : Int32) = nI 2 from rfl, nI_mul, nI_add]
  have h5 : σ.1 5 (3 * k + 2) = nI (tyAt m k).2.2 := (hY.1.2 k _ (tyAt_get hk)).2.2
  refine S_ModuleRows_givenBy ?_
  rw [e4, nI_clamp (n := 3 * k + 2) (by omega), h5]
  exact ⟨vp_in_nI (by omega) (by decide), rfl, rfl, rfl⟩
theorem i_lit {x : Int32} {c : Int32} {k : Int} (h : x.toInt = k) (hc : c.toInt = k) : x = c := Int32.toInt_inj.mp (h.trans hc.symm)
theorem c_xport {k : Nat} {x : Ex} (h03 : σ.2.2 0 3 = 4) (h05 : ¬ σ.1 0 5 = 0) (hok : okK t n m) (hY : DY t n m (rnS swM σ)) (hx : (mdE m)[k]? = some x) (a1 : Int32) : Ci (d + 2) 101 [.ref 0, .int (nI k), .int a1] σ (fun r σ' => r = exF t m x a1.toInt ∧ σ' = σ) := by
  have hk := get_lt hx
  have l6 : (mdE m).length ≤ 60 := hok.1.2.2.2.2.2.1
  have e312 : σ.1 3 12 = nI (mdE m).length := hY.2.2.2.2.2.1.1
  have hn4 : n ≤ 4000 := hok.2.2.2.2.2.1
  obtain ⟨g1, g2, g3⟩ := hok.ex hx
  have k1 : σ.1 11 (4 * k + 1) = nI x.2.1 := (hY.2.2.2.2.2.1.2 k x hx).2.1
  have k0 : σ.1 11 (4 * k) = nI x.1 := (hY.2.2.2.2.2.1.2 k x hx).1
  have e41 : (4 : Int32) * nI k + (1 : Int32) = nI (4 * k + 1) := by rw [show (4 : Int32) = nI 4 from rfl, nI_mul, nI_1]
  have e40 : (4 : Int32) * nI k = nI (4 * k) := by rw [show (4 : Int32) = nI 4 from rfl, nI_mul]
  have m2 : ((-2 : Int32) ≤ a1) ↔ -2 ≤ a1.toInt := by rw [Int32.le_iff_toInt_le]; rfl
  have m0 : ((0 : Int32) ≤ a1) ↔ 0 ≤ a1.toInt := by rw [Int32.le_iff_toInt_le]; rfl
  refine S_X_export (d := d + 1) h03 ⟨fun z => absurd z h05, fun _ => ⟨fun z => absurd z (nI_pos (by omega)), fun _ => ⟨by decide, ?_⟩⟩⟩
  rw [e312]
  refine pk_le (mdE m).length k (fun z => absurd z (by omega)) fun _ => ⟨fun z => ⟨by decide, ?_⟩, fun z => ⟨?_, rfl⟩⟩
  · have z := m2.mp z
    refine (c_kindOf hok hY hx).mono fun y σ1 hy => ?_
    obtain ⟨r, rfl, e, rfl, rfl⟩ := Qi_s hy
    refine ⟨rfl, ?_⟩
    simp only [sW_id]
    refine ⟨by decide, ?_⟩
    refine (c_numberOf hok hY hx).mono fun y σ1 hy => ?_
    obtain ⟨r, rfl, e, rfl, rfl⟩ := Qi_s hy
    refine ⟨rfl, ?_⟩
    simp only [sW_id]
    refine ⟨fun w => ?_, fun w => ?_⟩
    · have w := m0.mp w
      refine ⟨fun y => ⟨fun y1 => ?_, fun y1 => ⟨?_, rfl⟩⟩, fun y => ⟨?_, rfl⟩⟩
      · rw [e41, e40, nI_clamp (n := 4 * k + 1) (by omega), nI_clamp (n := 4 * k) (by omega), k1, k0]
        refine ⟨by decide, vp_in_nI (by omega) (by decide), fun y2 => ⟨by decide, vp_in_nI (by omega) (by decide), ?_⟩, fun y2 => ⟨?_, rfl⟩⟩
        · obtain ⟨j, hj, rfl⟩ := nI_of (show ¬ a1 < 0 from Int32.not_lt.mpr (m0.mpr w))
          have hj0 : j ≠ 0 := fun q => y (by rw [q]; rfl)
          have hj1 : j ≠ 1 := fun q => y1 (by rw [q]; rfl)
          have hj2 : j ≠ 2 := fun q => y2 (by rw [q]; rfl)
          have e3 : nI j - (3 : Int32) = nI (j - 3) := nI_sub (b := 3) (by omega)
          have eI : (nI j).toInt = (j : Int) := nI_toInt hj
          rw [e3]
          unfold exF
          rw [if_neg (by omega), if_neg (by omega), if_neg (by omega), if_neg (by omega), if_neg (by omega), eI]
          refine pk_le x.2.1 (j - 3) (fun q => ⟨?_, rfl⟩) fun q => ⟨by decide, ?_⟩
          · rw [if_neg (by omega)]
          · have e5 : nI x.1 + nI j - (3 : Int32) = nI (x.1 + (j - 3)) := by
              rw [nI_add, show (3 : Int32) = nI 3 from rfl, nI_sub (by omega)]
              congr 1
              omega
            have k4 : σ1.1 4 (x.1 + (j - 3)) = (t (x.1 + (j - 3))).toInt8.toInt32 := hY.2.2.2.2.2.2.2.2.2.2 _ (by omega)
            rw [e5, nI_clamp (by omega), k4, bI_X, if_pos (by omega)]
            refine ⟨vp_in_nI (by omega) (by decide), ?_, rfl⟩
            congr 2
            omega
        · have : a1.toInt = 2 := by rw [y2]; rfl
          unfold exF
          rw [if_neg (by omega), if_neg (by omega), if_neg (by omega), if_neg (by omega), if_pos this]
      · have : a1.toInt = 1 := by rw [y1]; rfl
        unfold exF
        rw [if_neg (by omega), if_neg (by omega), if_neg (by omega), if_pos this]
      · have : a1.toInt = 0 := by rw [y]; rfl
        unfold exF
        rw [if_neg (by omega), if_neg (by omega), if_pos this]
    · have w : ¬ 0 ≤ a1.toInt := fun q => w (m0.mpr q)
      refine pk_eq x.2.2.1 0 (fun y => ?_) fun y => ⟨?_, rfl⟩
      · have hnum : x.2.2.2 < (mdU m).length := by
          rw [y] at g3
          exact g3
        obtain ⟨p1, p2, p3⟩ := hok.fn hnum
        have l2 : (mdU m).length ≤ 60 := hok.1.2.1
        have h6 : σ1.1 6 x.2.2.2 = nI (fnTy m x.2.2.2) := hY.2.1.2 _ _ p1
        refine S_X_shapeOf (d := d) h03 ⟨by decide, vp_in_nI (by omega) (by decide), ?_⟩
        rw [nI_clamp (n := x.2.2.2) (by omega), h6]
        refine ⟨fun q => ⟨by decide, (c_givenBy hok hY p2).mono fun u σ1 hu => ?_⟩, fun q => ⟨by decide, (c_argsOf hok hY p2).mono fun u σ1 hu => ?_⟩⟩
        · obtain ⟨r, rfl, e, rfl, rfl⟩ := Qi_s hu
          have : a1.toInt ≠ -1 := fun v => q (i_lit v rfl)
          refine ⟨rfl, rfl, ?_, rfl⟩
          unfold exF
          rw [if_neg (by omega), if_pos (by omega), if_pos y, if_neg this]
        · obtain ⟨r, rfl, e, rfl, rfl⟩ := Qi_s hu
          have : a1.toInt = -1 := by rw [q]; rfl
          refine ⟨rfl, rfl, ?_, rfl⟩
          unfold exF
          rw [if_neg (by omega), if_pos (by omega), if_pos y, if_pos this]
      · unfold exF
        rw [if_neg (by omega), if_pos (by omega), if_neg y]
  · have z : ¬ -2 ≤ a1.toInt := fun q => z (m2.mpr q)
    unfold exF
    rw [if_pos (by omega)]
theorem m_typeOf {f : Nat} (hok : okK t n m) (hb : b < 2) (h37 : σ.1 103 37 = nI b) (hM : MX t b m σ) (hf : f < (mdU m).length) : Ci d 294 [.ref 103, .int (nI f)] σ (fun r σ' => r = nI (60 * b + fnTy m f) ∧ σ' = σ) := by
  have l2 : (mdU m).length ≤ 60 := hok.1.2.1
  have h117 : σ.2.1 117 (60 * b + f) = lN (fnTy m f) := hM.2.1.1 f _ (hok.fn hf).1
  refine S_M_typeOf ?_
  rw [h37, ex, nI_clamp (n := 60 * b + f) (by omega), h117, lN_i32, ex]
  exact ⟨vp_in_nI (by omega) (by decide), rfl, rfl⟩
theorem m_export {a0 : Int32} {v : Int32} (h39 : ¬ σ.1 103 39 = 0) (hok : okK t n m) (hb : b < 2) (h37 : σ.1 103 37 = nI b) (hM : MX t b m σ) (h105 : ∀ k, k < n → σ.1 105 (4000 * b + k) = bI (t k)) (a1 : Int32) (h0 : (∀ k, k < (mdE m).length → a0 ≠ nI k) → v = -9) (h1 : ∀ k x, (mdE m)[k]? = some x → a0 = nI k → v = exF t m x a1.toInt) (hJ : J σ) : Ci (d + 2) 292 [.ref 103, .int a0, .int a1] σ (fun r σ' => v = r ∧ J σ') := by
  have l6 : (mdE m).length ≤ 60 := hok.1.2.2.2.2.2.1
  have hn4 : n ≤ 4000 := hok.2.2.2.2.2.1
  have e114 : σ.1 114 b = nI (mdE m).length := hM.2.2.2.2.2.1.2
  have m2 : ((-2 : Int32) ≤ a1) ↔ -2 ≤ a1.toInt := by rw [Int32.le_iff_toInt_le]; rfl
  have m0 : ((0 : Int32) ≤ a1) ↔ 0 ≤ a1.toInt := by rw [Int32.le_iff_toInt_le]; rfl
  refine S_M_export (d := d + 1) ⟨fun z => absurd z h39, fun _ => ⟨by rw [h37]; exact vp_in_nI hb (by decide), ?_⟩⟩
  rw [h37, nI_clamp (n := b) (by omega), e114]
  refine (m_isIn (by omega)).mono fun y σ1 hy => ?_
  obtain ⟨r, rfl, rfl, hr⟩ := Qi_s hy
  rcases hr with ⟨rfl, hr⟩ | ⟨k, hk, rfl, rfl⟩
  · exact ⟨fun z => absurd rfl z, fun _ => ⟨h0 hr, hJ⟩⟩
  have hx : (mdE m)[k]? = some (mdE m)[k] := List.getElem?_eq_getElem hk
  generalize (mdE m)[k] = x at hx
  have hv := h1 k x hx rfl
  obtain ⟨g1, g2, g3⟩ := hok.ex hx
  have hth : thN m x.2.2.1 ≤ 60 := thN_le hok.1
  have q129 : σ1.1 129 (60 * b + k) = nI x.1 := (hM.2.2.2.2.2.1.1 k x hx).1
  have q130 : σ1.1 130 (60 * b + k) = nI x.2.1 := (hM.2.2.2.2.2.1.1 k x hx).2.1
  have q131 : σ1.1 131 (60 * b + k) = nI x.2.2.1 := (hM.2.2.2.2.2.1.1 k x hx).2.2.1
  have q123 : σ1.2.1 123 (60 * b + k) = lN x.2.2.2 := (hM.2.2.2.2.2.1.1 k x hx).2.2.2
  have vk : vp_in (nI (60 * b + k)) 120 := vp_in_nI (by omega) (by decide)
  subst hv
  show _ ∧ _
  rw [h37, ex, nI_clamp (n := 60 * b + k) (by omega), q129, q130, q131, q123, lN_i32]
  refine ⟨fun _ => ⟨fun w => ?_, fun w => ⟨vk, ?_⟩⟩, fun z => absurd z (by decide)⟩
  · have w := m0.mp w
    refine ⟨fun z => ⟨vk, ?_⟩, fun z => ⟨vk, ?_, hJ⟩, fun z => ⟨vk, ?_, hJ⟩, fun z => ⟨vk, ?_, hJ⟩, trivial⟩
    · obtain ⟨j, hj, rfl⟩ := nI_of (show ¬ a1 < 0 from Int32.not_lt.mpr (m0.mpr w))
      have eI : (nI j).toInt = (j : Int) := nI_toInt hj
      rw [eI] at z
      have e3 : nI j - (3 : Int32) = nI (j - 3) := nI_sub (b := 3) (by omega)
      rw [e3]
      unfold exF
      rw [if_neg (by omega), if_neg (by omega), if_neg (by omega), if_neg (by omega), if_neg (by omega), eI]
      refine pk_le x.2.1 (j - 3) (fun q => ⟨?_, hJ⟩) fun q => ⟨vk, ?_⟩
      · rw [if_neg (by omega)]
      · have e5 : (4000 : Int32) * nI b + nI x.1 + nI j - (3 : Int32) = nI (4000 * b + (x.1 + (j - 3))) := by
          rw [show (4000 : Int32) = nI 4000 from rfl, nI_mul, nI_add, nI_add, show (3 : Int32) = nI 3 from rfl, nI_sub (by omega)]
          congr 1
          omega
        rw [e5, nI_clamp (by omega), h105 _ (by omega), if_pos (by omega)]
        refine ⟨vp_in_nI (by omega) (by decide), ?_, hJ⟩
        congr 2
        omega
    · unfold exF
      rw [if_neg (by omega), if_neg (by omega), if_pos z]
    · unfold exF
      rw [if_neg (by omega), if_neg (by omega), if_neg (by omega), if_pos z]
    · unfold exF
      rw [if_neg (by omega), if_neg (by omega), if_neg (by omega), if_neg (by omega), if_pos z]
  · have w : ¬ 0 ≤ a1.toInt := fun q => w (m0.mpr q)
    refine And.comm.mp (pk_eq x.2.2.1 0 (fun y => ⟨fun z => ⟨vk, ?_⟩, fun z => ⟨?_, hJ⟩⟩) fun y => ⟨?_, hJ⟩)
    · have z := m2.mp z
      have hnum : x.2.2.2 < (mdU m).length := by
        rw [y] at g3
        exact g3
      obtain ⟨p1, p2, p3⟩ := hok.fn hnum
      have l1 : (mdT m).length ≤ 60 := hok.1.1
      have hr : rTM t (60 * b + fnTy m x.2.2.2) (tyAt m (fnTy m x.2.2.2)) σ1 := (hM.1.1 _ _ (tyAt_get p2)).2
      refine (m_typeOf hok hb h37 hM hnum).mono fun u σ2 hu => ?_
      obtain ⟨r, rfl, rfl, rfl⟩ := Qi_s hu
      have vt : vp_in (nI (60 * b + fnTy m x.2.2.2)) 120 := vp_in_nI (by omega) (by decide)
      show _ ∧ _
      rw [nI_clamp (n := 60 * b + fnTy m x.2.2.2) (by omega), hr.1, hr.2.2]
      refine ⟨fun q => ⟨vt, ?_, hJ⟩, fun q => ⟨vt, ?_, hJ⟩⟩
      · have : a1.toInt ≠ -1 := fun v => q (i_lit v rfl)
        unfold exF
        rw [if_neg (by omega), if_pos (by omega), if_pos y, if_neg this]
      · have : a1.toInt = -1 := by rw [q]; rfl
        unfold exF
        rw [if_neg (by omega), if_pos (by omega), if_pos y, if_pos this]
    · have z : ¬ -2 ≤ a1.toInt := fun q => z (m2.mpr q)
      unfold exF
      rw [if_pos (by omega)]
    · unfold exF
      by_cases z : a1.toInt < -2
      · rw [if_pos z]
      · rw [if_neg z, if_pos (by omega), if_neg y]
theorem op_export (h03 : σ.2.2 0 3 = 4) (hK : KN σ) (hJ : J σ) (a0 a1 : Int32) : Ci (d + 2) 101 [.ref 0, .int a0, .int a1] σ (fun r σ1 => Ci (d + 2) 292 [.ref 103, .int a0, .int a1] σ1 (fun r2 σ2 => r = r2 ∧ J σ2)) := by
  rcases hK with ⟨h1, h2, -⟩ | ⟨t, n, m, b, h1, h2, hb, h37, hok, hY, -, hM, h105, -, -, ⟨p, mm, hV⟩, -⟩
  · exact S_X_export (d := d + 1) h03 ⟨fun _ => S_M_export (d := d + 1) ⟨fun _ => ⟨rfl, hJ⟩, fun z => absurd h2 z⟩, fun z => absurd h1 z⟩
  have n1 : ¬ σ.1 0 5 = 0 := by rw [h1]; decide
  have n2 : ¬ σ.1 103 39 = 0 := by rw [h2]; decide
  have l6 : (mdE m).length ≤ 60 := hok.1.2.2.2.2.2.1
  have e312 : σ.1 3 12 = nI (mdE m).length := hY.2.2.2.2.2.1.1
  by_cases hin : ∃ k, k < (mdE m).length ∧ a0 = nI k
  · obtain ⟨k, hk, rfl⟩ := hin
    have hx : (mdE m)[k]? = some (mdE m)[k] := List.getElem?_eq_getElem hk
    generalize (mdE m)[k] = x at hx
    refine (c_xport h03 n1 hok hY hx a1).mono fun y σ1 hy => ?_
    obtain ⟨r, rfl, rfl, rfl⟩ := Qi_s hy
    refine m_export n2 hok hb h37 hM h105 a1 (fun h => absurd rfl (h k hk)) (fun j x2 hx2 h => ?_) hJ
    have hj := get_lt hx2
    have := (nI_eq (by omega) (by omega)).mp h
    subst this
    rw [hx] at hx2
    cases hx2
    rfl
  · have go : ∀ v : Int32, v = -9 → Ci (d + 2) 292 [.ref 103, .int a0, .int a1] σ (fun r2 σ2 => v = r2 ∧ J σ2) := fun v hv => m_export n2 hok hb h37 hM h105 a1 (fun _ => hv) (fun k x hx h => absurd ⟨k, get_lt hx, h⟩ hin) hJ
    refine S_X_export (d := d + 1) h03 ⟨fun z => absurd z n1, fun _ => ⟨fun z => go _ rfl, fun z => ⟨by decide, ?_⟩⟩⟩
    rw [e312]
    obtain ⟨k, hk, rfl⟩ := nI_of z
    exact pk_le (mdE m).length k (fun w => go _ rfl) fun w => absurd ⟨k, w, rfl⟩ hin
end EXPORT
