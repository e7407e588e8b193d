/-! MEMORY of a run, the class: the INSTRUCTIONS -/
theorem sMm2_run {c j : Nat} (h : sMm2 c j = true) : sRun c j = true := by
  unfold sMm2 at h
  unfold sRun
  simp only [Bool.or_eq_true, Bool.and_eq_true, Nat.beq_eq, Nat.ble_eq] at h ⊢
  omega
theorem sTr_run {c j : Nat} (h : sTr c j = true) : sRun c j = true := by
  unfold sTr sOp at h
  unfold sRun
  simp only [Bool.or_eq_true, Bool.and_eq_true, Nat.beq_eq, Nat.ble_eq] at h ⊢
  omega
theorem mmX.cg {mm mm2 : Nat → UInt8} {σ : fkS} (h : mmX mm σ) (e : ∀ k, mm k = mm2 k) : mmX mm2 σ := fun k hk => (h k hk).trans (e k)
theorem stM_0 (mm : Nat → UInt8) (fr : Nat) (v : Int64) (i : Nat) : mm i = stM mm fr 0 v i := by
  unfold stM
  rw [if_neg (by omega)]
theorem stM_s (mm : Nat → UInt8) (fr r : Nat) (v : Int64) (i : Nat) : (if i = fr + r then by8 v r else stM mm fr r v i) = stM mm fr (r + 1) v i := by
  unfold stM
  by_cases z : i = fr + r
  · rw [if_pos z, if_pos (by omega), z]
    congr 1
    omega
  · rw [if_neg z]
    by_cases y : fr ≤ i ∧ i < fr + r
    · rw [if_pos y, if_pos (by omega)]
    · rw [if_neg y, if_neg (by omega)]
theorem u4_bI (b : UInt8) : u4 (bI b) = b.toNat := u4_nI (by have := b.toNat_lt; omega)
def sMv2 (c j : Nat) : Bool := sTr c j || Nat.beq c 58
section MEMX2
variable {d fr w op p : Nat} {m : Md} {σ : fkS} {A S : List Int64} {mm : Nat → UInt8} {x off v : Int64} {Q : fkS → Prop}
theorem w_store28 {σ0 : fkS} (hw : w ≤ 8) (hfr : fr + w ≤ 131072) (hQ : ∀ σ', σ'.2.2 = σ0.2.2 → Fr sMm2 σ0 σ' → mmX (stM mm fr w v) σ' → Q σ') :
    ∀ (k r : Nat) (σ : fkS), r + k = w → σ.2.2 = σ0.2.2 → Fr sMm2 σ0 σ → mmX (stM mm fr r v) σ → Wq 124 (d + 1) 28 [some (.ref 56), none, none, none, some (.long v), none, some (.int (nI w)), some (.int (nI fr)), some (.int (nI r))] [] σ (Qv fun σ' => σ'.2.2 = σ0.2.2 ∧ Q σ')
  | 0, r, σ, hr, e0, f0, hM => by
    have hr : r = w := by omega
    subst hr
    exact S_Machine_store_28 ⟨fun _ => ⟨e0, hQ σ e0 f0 hM⟩, fun z => absurd (nI_le (Nat.le_refl r) (by omega)) z⟩
  | k + 1, r, σ, hr, e0, f0, hM => by
    refine S_Machine_store_28 ⟨fun z => absurd z (nI_ge (by omega) (by omega)), fun _ => ⟨fun z => absurd z (nI_pos (by omega)), fun _ => ?_⟩⟩
    have e8 : (fk_lushr v ((8 : Int32) * nI r)).toInt32 &&& (255 : Int32) = bI (by8 v r) := by
      rw [show (8 : Int32) = nI 8 from rfl, nI_mul]
      exact by8_X v (by omega)
    rw [e8, nI_add, nI_1]
    refine x_setByte (a := fr + r) (by omega) (u4_bI _) hM fun σ1 e1 f1 hM1 => ?_
    rw [sW_eq e1]
    exact w_store28 hw hfr hQ k (r + 1) σ1 (by omega) (e1.trans e0) (f0.tr f1) (hM1.cg fun i => stM_s mm fr r v i)
theorem x_load (hop : op < 256) (hp : p ≤ 2) (h4 : σ.1 56 4 = nI p) (hM : mmX mm σ) (hB : oX σ (x :: A)) (ho : hi64 off < 2 ^ 32) (hQ0 : lo32 x + hi64 off + wid op ≤ 65536 * p → ∀ σ', σ'.2.2 = σ.2.2 → Fr sTr σ σ' → σ'.1 56 15 = σ.1 56 15 → oX σ' (ldV op mm (lo32 x + hi64 off) :: A) → Q σ') (hQ1 : ¬ lo32 x + hi64 off + wid op ≤ 65536 * p → ∀ σ', σ'.2.2 = σ.2.2 → Fr sTr σ σ' → σ'.1 56 15 = 4 → Q σ') : Dv (d + 2) 120 [.ref 56, .int (nI op), .long off] σ Q := by
  have hw : wid op ≤ 8 ∧ 0 < wid op := by
    unfold wid
    split
    · omega
    split
    · omega
    split <;> omega
  have hl : A.length < 24000 := hB.2.1
  refine S_Machine_load (d := d + 1) (Q := Qv _) ((c_wid hop).mono fun y σ1 hy => ?_)
  obtain ⟨r, rfl, eq1, hr, hs⟩ := Qi_s hy
  subst hr
  refine ⟨eq1, ?_⟩
  simp only [sW_eq eq1]
  rw [hs]
  refine x_pop hB fun σ2 e2 f2 o2 => ?_
  simp only [sW_eq e2]
  have hM2 := hM.fo (f2.mono fun _ _ => sOp_tr)
  refine x_addr hp ((f2 _ _ rfl).1.trans h4) hw.1 ho (fun z => ?_) fun z => ?_
  · rw [sW_eq e2]
    refine ⟨fun _ => ?_, fun y => absurd (show (0 : Int32) ≤ nI (lo32 x + hi64 off) from nI_le (Nat.zero_le _) (by omega)) y⟩
    have e0 : (0 : Int64) = ldA mm (lo32 x + hi64 off) (wid op) 0 := rfl
    rw [e0]
    refine (w_load34 (σ := σ2) (A := A) (mm := mm) (fr := lo32 x + hi64 off) (w := wid op) (off := 0) (Q := fun σ3 => Q σ3) hop hw.1 (by omega) hM2 o2 hl (fun σ3 e3 f3 o3 => hQ0 z σ3 (e3.trans e2) ((f2.tr f3).mono fun _ _ => sOp_tr) ((f3 _ _ rfl).1.trans (f2 _ _ rfl).1) o3) (wid op) 0 (by omega)).mono fun y σ3 hy => ?_
    obtain ⟨rfl, e4, q1⟩ := Qv_s hy
    exact ⟨e4.trans e2, q1⟩
  · rw [sW_eq (show (sI σ2 56 15 (4 : Int32)).2.2 = σ.2.2 from e2)]
    refine ⟨fun y => absurd y (by decide), fun _ => ⟨e2, hQ1 z _ e2 ((f2.mono fun _ _ => sOp_tr).sI rfl) sI_ss⟩⟩
theorem x_store (hop : op < 256) (hp : p ≤ 2) (h4 : σ.1 56 4 = nI p) (hM : mmX mm σ) (hB : oX σ (v :: x :: A)) (ho : hi64 off < 2 ^ 32) (hQ0 : lo32 x + hi64 off + wid op ≤ 65536 * p → ∀ σ', σ'.2.2 = σ.2.2 → Fr sMv2 σ σ' → σ'.1 56 15 = σ.1 56 15 → oX σ' A → mmX (stM mm (lo32 x + hi64 off) (wid op) v) σ' → Q σ') (hQ1 : ¬ lo32 x + hi64 off + wid op ≤ 65536 * p → ∀ σ', σ'.2.2 = σ.2.2 → Fr sTr σ σ' → σ'.1 56 15 = 4 → Q σ') : Dv (d + 2) 124 [.ref 56, .int (nI op), .long off] σ Q := by
  have hw : wid op ≤ 8 ∧ 0 < wid op := by
    unfold wid
    split
    · omega
    split
    · omega
    split <;> omega
  refine S_Machine_store (d := d + 1) (Q := Qv _) (x_pop hB fun σ1 e1 f1 o1 => ?_)
  simp only [sW_eq e1]
  refine (c_wid hop).mono fun y σ2 hy => ?_
  obtain ⟨r, rfl, eq1, hr, hs⟩ := Qi_s hy
  subst hr
  refine ⟨eq1, ?_⟩
  simp only [sW_eq (eq1.trans e1)]
  rw [hs]
  refine x_pop o1 fun σ3 e3 f3 o3 => ?_
  have e3' := e3.trans e1
  simp only [sW_eq e3']
  have f13 := (f1.tr f3).mono fun _ _ => sOp_tr
  have hM3 := hM.fo f13
  refine x_addr hp ((f13 _ _ rfl).1.trans h4) hw.1 ho (fun z => ?_) fun z => ?_
  · rw [sW_eq e3']
    refine (w_store28 (d := d + 1) (Q := fun σ4 => Q σ4) (σ0 := σ3) (mm := mm) (fr := lo32 x + hi64 off) (v := v) hw.1 (by omega) (fun σ4 e4 f4 hM4 => ?_) (wid op) 0 σ3 (by omega) rfl Fr.rf (hM3.cg fun i => stM_0 mm _ v i)).mono fun y σ4 hy => ?_
    · refine hQ0 z σ4 (e4.trans e3') ?_ ((f4 _ _ rfl).1.trans ((f3 _ _ rfl).1.trans (f1 _ _ rfl).1)) (o3.fr f4 rfl fun _ => rfl) hM4
      exact (f13.mono fun _ _ h => by unfold sMv2; rw [h]; rfl).tr (f4.mono fun _ _ h => by unfold sMm2 at h; unfold sMv2; rw [h, Bool.or_true])
    · obtain ⟨rfl, e4, q1⟩ := Qv_s hy
      exact ⟨e4.trans e3', q1⟩
  · rw [sW_eq (show (sI σ3 56 15 (4 : Int32)).2.2 = σ.2.2 from e3')]
    have fin : ∀ {r : Int32}, Wq 124 (d + 2) 28 [some (.ref 56), none, none, none, some (.long v), none, some (.int (nI (wid op))), some (.int (-1)), some (.int 0)] [] (sI σ3 56 15 (4 : Int32)) (Qv fun σ' => σ'.2.2 = σ.2.2 ∧ Q σ') := fun {r} =>
      S_Machine_store_28 ⟨fun _ => ⟨e3', hQ1 z _ e3' (f13.sI rfl) sI_ss⟩, fun _ => ⟨fun _ => ⟨e3', hQ1 z _ e3' (f13.sI rfl) sI_ss⟩, fun y => absurd (by decide) y⟩⟩
    exact fin (r := 0)
end MEMX2
