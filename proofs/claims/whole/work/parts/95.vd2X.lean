/-! THE VERDICT ON A MODULE, whole: the class -/
def liLast (l : List Li) : Li := (l.getLast?).getD (0, none)
def limOf (most : Nat) (l : List Li) : Int32 := if l.length = 1 then liV most (liLast l) else 0
def vdM (t : Nat → UInt8) (m : Md) : Int32 :=
  if vTy m = false ∨ 1 < (mdA m).length ∨ 1 < (mdM m).length then -3
  else if limOf 100 (mdA m) ≠ 0 then limOf 100 (mdA m)
  else if limOf 2 (mdM m) ≠ 0 then limOf 2 (mdM m)
  else if (vGl m && vEx t m && vEl m) = false then -3
  else if vFs t m = true then 0 else -3
section VD2X
variable {t : Nat → UInt8} {n d : Nat} {m : Md} {σ : fkS}
theorem DX.kx (h : DX m σ) (h50 : σ.2.2 50 0 = 25) (h51 : σ.2.2 50 1 = 37) (h25 : ∀ k, k < n → σ.1 25 k = (t k).toInt8.toInt32) (hC4 : (mdC m).2.length ≤ 4000) (hC : fC (mdC m).2) : KX t n m σ := by
  obtain ⟨h1, h2, h3, h4, h5, h6, h7, ⟨h8, h9⟩, h10, ⟨h11, h12, h13, h14, h15⟩, h16, h17⟩ := h
  exact ⟨h1, h2, h3.1, h4.1, h5, h9, ⟨hC4, fun k i hi => ⟨h13 k i hi, (hC.1 i (List.mem_of_getElem? hi)).1⟩, h15, h17⟩, h25, h50, h51⟩
theorem DX.lo (h : DX m σ) (s : Nat) : LO (mdC m).2 s σ := by
  obtain ⟨h1, h2, h3, h4, h5, h6, h7, ⟨h8, h9⟩, h10, ⟨h11, h12, h13, h14, h15⟩, h16, h17⟩ := h
  exact fun j B _ hB => h14 j B hB
theorem li_get {l : List Li} (h : l.length = 1) : l.getLast? = some (liLast l) ∧ liLast l ∈ l := by
  match l, h with
  | [x], _ => exact ⟨rfl, List.mem_singleton.mpr rfl⟩
theorem w_vd102 {σ0 : fkS} {v : Int32} (hl : lenM m) (hf : fcM t n m) (hn4 : n ≤ 4000) (hD : DX m σ) (hX : KX t n m σ) (hok : okMd m) (hT : vTy m = true) (hA : ¬ 1 < (mdA m).length) (hM : ¬ 1 < (mdM m).length) (hEl : (elAll (mdL m)).length ≤ 4000) (e0 : σ.2.2 = σ0.2.2)
    (hv : v = if limOf 100 (mdA m) ≠ 0 then limOf 100 (mdA m) else limOf 2 (mdM m)) (f0 : Fr sVd σ0 σ) :
    Wq 57 (d + 6) 102 [some (.ref 50), none, some (.int v), none] [] σ (Qi fun x σ' => σ'.2.2 = σ0.2.2 ∧ x = vdM t m ∧ Fr sVd σ0 σ' ∧ (vdM t m = 0 → rvdA t m (mdU m).length σ')) := by
  have h50 := hX.2.2.2.2.2.2.2.2.1
  have h25 := hX.2.2.2.2.2.2.2.1
  have e1 : vdM t m = if v ≠ 0 then v else if (vGl m && vEx t m && vEl m) = false then -3 else if vFs t m = true then 0 else -3 := by
    unfold vdM
    rw [if_neg (by rw [hT]; simp; omega), hv]
    by_cases z : limOf 100 (mdA m) ≠ 0
    · rw [if_pos z, if_pos z, if_pos z]
    · rw [if_neg z, if_neg z]
  refine S_Judge_verdictOn_102 ⟨fun z => ?_, fun z => ?_⟩
  · rw [if_neg (fun y => y z)] at e1
    have bad : (vGl m && vEx t m && vEl m) = false → Qi (fun x σ' => σ'.2.2 = σ0.2.2 ∧ x = vdM t m ∧ Fr sVd σ0 σ' ∧ (vdM t m = 0 → rvdA t m (mdU m).length σ')) (some (.int (-3 : Int32))) σ := fun y => by
      rw [if_pos y] at e1
      rw [e1]
      exact ⟨e0, rfl, f0, fun w => absurd w (by decide)⟩
    refine (c_vGl hD hl hf h50).mono fun x σ1 hx => ?_
    obtain ⟨r, rfl, e2, hr, hs⟩ := Qi_s hx
    subst hr
    rw [hs]
    refine ⟨rfl, fun y => bad (by rw [b2i_0.mp y]; rfl), fun y => ?_⟩
    simp only [sW_id]
    refine (c_vEx (d := d + 4) hD hl hf hn4 h50 h25).mono fun x σ1 hx => ?_
    obtain ⟨r, rfl, e2, hr, hs⟩ := Qi_s hx
    subst hr
    rw [hs]
    refine ⟨rfl, fun w => bad (by rw [b2i_0.mp w, Bool.and_false]; rfl), fun w => ?_⟩
    simp only [sW_id]
    refine (c_vEl hD hl hf hEl h50).mono fun x σ1 hx => ?_
    obtain ⟨r, rfl, e2, hr, hs⟩ := Qi_s hx
    subst hr
    rw [hs]
    refine ⟨rfl, fun u => ?_, fun u => bad (by rw [b2i_0.mp u, Bool.and_false])⟩
    have hall : ¬ (vGl m && vEx t m && vEl m) = false := by
      rw [b2t y, b2t w, b2t u]
      decide
    rw [if_neg hall] at e1
    show Wq 57 (d + 6) 134 [some (.ref 50), none, none, some (.int (nI 0))] [] σ _
    refine (w_vd134 (d := d) (σ0 := σ) hl hf hn4 hX hok hT (hD.lo 0) (mdU m).length 0 σ (by omega) rfl Fr.rf (fun g _ _ => hD.lo _) (fun g hg => absurd hg (Nat.not_lt_zero g)) fun g hg => absurd hg (Nat.not_lt_zero g)).mono fun x σ1 hx => ?_
    obtain ⟨r, rfl, e2, hr, f2, r2⟩ := Qi_s hx
    refine ⟨e2.trans e0, hr.trans e1.symm, f0.tr f2, fun q => r2 ?_⟩
    rw [e1] at q
    by_cases hvf : vFs t m = true
    · exact hvf
    · rw [if_neg hvf] at q
      exact absurd q (by decide)
  · rw [if_pos z] at e1
    rw [e1]
    exact ⟨e0, rfl, f0, fun w => absurd w z⟩
theorem c_verdict (hl : lenM m) (hf : fcM t n m) (hn4 : n ≤ 4000) (hD : DX m σ) (h25 : ∀ k, k < n → σ.1 25 k = (t k).toInt8.toInt32) (hC4 : (mdC m).2.length ≤ 4000) (hok : okMd m) (hEl : (elAll (mdL m)).length ≤ 4000) :
    Ci (d + 6) 57 [.ref 50, .ref 24] σ (fun x σ' => σ'.2.2 = (sR (sR σ 50 0 25) 50 1 37).2.2 ∧ x = vdM t m ∧ Fr sVd (sR (sR σ 50 0 25) 50 1 37) σ' ∧ (vdM t m = 0 → rvdA t m (mdU m).length σ')) := by
  have l3 : (mdA m).length ≤ 60 := hl.2.2.1
  have l4 : (mdM m).length ≤ 60 := hl.2.2.2.1
  have h50 : (sR (sR σ 50 0 25) 50 1 37).2.2 50 0 = 25 := rfl
  have h51 : (sR (sR σ 50 0 25) 50 1 37).2.2 50 1 = 37 := rfl
  have hDτ : DX m (sR (sR σ 50 0 25) 50 1 37) := hD
  have h25τ : ∀ k, k < n → (sR (sR σ 50 0 25) 50 1 37).1 25 k = (t k).toInt8.toInt32 := h25
  refine S_Judge_verdictOn ?_
  generalize sR (sR σ 50 0 25) 50 1 37 = τ at *
  have hX : KX t n m τ := hDτ.kx h50 h51 h25τ hC4 hok.2.2.1
  have bad : (vTy m = false ∨ 1 < (mdA m).length ∨ 1 < (mdM m).length) → Qi (fun x σ' => σ'.2.2 = τ.2.2 ∧ x = vdM t m ∧ Fr sVd τ σ' ∧ (vdM t m = 0 → rvdA t m (mdU m).length σ')) (some (.int (-3 : Int32))) τ := fun z => by
    have e1 : vdM t m = -3 := if_pos z
    rw [e1]
    exact ⟨rfl, rfl, Fr.rf, fun w => absurd w (by decide)⟩
  refine (c_vTy hDτ hl hf h50).mono fun x σ1 hx => ?_
  obtain ⟨r, rfl, e2, hr, hs⟩ := Qi_s hx
  subst hr
  rw [hs]
  refine ⟨rfl, fun z => bad (.inl (b2i_0.mp z)), fun z => ⟨by decide, ?_⟩⟩
  simp only [sW_id]
  have hT := b2t z
  rw [hX.2.2.1, hX.2.2.2.1]
  refine pk_lt 1 (mdA m).length (fun y => bad (.inr (.inl y))) fun y => ⟨by decide, pk_le (mdM m).length 1 (fun w => ⟨by decide, ?_⟩) fun w => bad (.inr (.inr w))⟩
  have go : ∀ v : Int32, v = limOf 100 (mdA m) → Wq 57 (d + 6) 73 [some (.ref 50), none, none, none] [.int v] τ (Qi fun x σ' => σ'.2.2 = τ.2.2 ∧ x = vdM t m ∧ Fr sVd τ σ' ∧ (vdM t m = 0 → rvdA t m (mdU m).length σ')) := fun v hv => by
    subst hv
    refine S_Judge_verdictOn_73 h50 ⟨fun q => ?_, fun q => ⟨by decide, ?_⟩⟩
    · exact w_vd102 hl hf hn4 hDτ hX hok hT (by omega) (by omega) hEl rfl (by rw [if_pos q]) Fr.rf
    · rw [q, hX.2.2.2.1]
      have zz : ¬ limOf 100 (mdA m) ≠ 0 := fun w => w q
      refine And.comm.mp (pk_eq (mdM m).length 1 (fun s => ⟨by decide, ?_⟩) fun s => ?_)
      · obtain ⟨g1, g2⟩ := li_get s
        refine (c_lim29 (most := 2) (hDτ.2.2.2.1.2 _ g1) (hf.2.2.2.1 _ g2) (by decide)).mono fun x σ1 hx => ?_
        obtain ⟨r, rfl, e2, hr, hs⟩ := Qi_s hx
        subst hr
        rw [hs]
        refine ⟨rfl, ?_⟩
        simp only [sW_id]
        refine w_vd102 hl hf hn4 hDτ hX hok hT (by omega) (by omega) hEl rfl ?_ Fr.rf
        rw [if_neg zz]
        unfold limOf
        rw [if_pos s]
      · refine w_vd102 hl hf hn4 hDτ hX hok hT (by omega) (by omega) hEl rfl ?_ Fr.rf
        rw [if_neg zz]
        unfold limOf
        rw [if_neg s]
  refine And.comm.mp (pk_eq (mdA m).length 1 (fun s => ⟨by decide, ?_⟩) fun s => go 0 ?_)
  · obtain ⟨g1, g2⟩ := li_get s
    refine (c_lim28 (most := 100) (hDτ.2.2.1.2 _ g1) (hf.2.2.1 _ g2) (by decide)).mono fun x σ1 hx => ?_
    obtain ⟨r, rfl, e2, hr, hs⟩ := Qi_s hx
    subst hr
    rw [hs]
    refine ⟨rfl, ?_⟩
    simp only [sW_id]
    refine go _ ?_
    unfold limOf
    rw [if_pos s]
  · unfold limOf
    rw [if_neg s]
end VD2X
