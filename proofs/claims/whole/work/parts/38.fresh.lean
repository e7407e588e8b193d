/-! BEFORE THE FIRST MODULE; A CLEARED DRAFT -/
def clr (σ : fkS) : fkS := sI (sI (sI (sI (sI (sI (sI (sI (sI (sI (sI σ 24 1 (0 : Int32)) 24 3 (0 : Int32)) 24 5 (0 : Int32)) 24 7 (0 : Int32)) 24 9 (0 : Int32)) 24 12 (0 : Int32)) 24 14 (0 : Int32)) 24 17 (0 : Int32)) 36 0 (0 : Int32)) 36 5 (0 : Int32)) 36 9 (0 : Int32)
theorem c_clear {d : Nat} {σ : fkS} : Dv d 17 [.ref 24] σ (fun σ' => σ' = clr σ) := S_ModuleRows_clear ⟨rfl, rfl⟩
theorem c_fine0 {d : Nat} {σ : fkS} (hf : σ.1 46 3 = 0) : Di d 20 [.ref 46] σ (fun r σ' => r = 1 ∧ σ' = σ) := S_Scan_fine ⟨fun z => absurd hf z, fun _ => ⟨rfl, rfl, rfl⟩⟩
theorem c_finez {d : Nat} {σ : fkS} (hf : ¬ σ.1 46 3 = 0) : Di d 20 [.ref 46] σ (fun r σ' => r = 0 ∧ σ' = σ) := S_Scan_fine ⟨fun _ => ⟨rfl, rfl, rfl⟩, fun z => absurd z hf⟩
/-- no module yet -/
def r0 (σ : fkS) : Prop := σ.1 0 5 = 0 ∧ σ.1 103 39 = 0
theorem op_count0 {d : Nat} {σ : fkS} (h : r0 σ) (h3 : σ.2.2 0 3 = 4) {J : fkS → Prop} (hJ : J σ) (a0 : Int32) : Ci d 100 [.ref 0, .int a0] σ (fun r σ1 => Ci d 291 [.ref 103, .int a0] σ1 (fun r2 σ2 => r = r2 ∧ J σ2)) :=
  S_X_count h3 ⟨fun z => absurd h.1 z, fun _ => S_M_count (Q := Qi fun r2 σ2 => -1 = r2 ∧ J σ2) ⟨fun z => absurd h.2 z, fun _ => ⟨rfl, hJ⟩⟩⟩
theorem op_export0 {d : Nat} {σ : fkS} (h : r0 σ) (h3 : σ.2.2 0 3 = 4) {J : fkS → Prop} (hJ : J σ) (a0 a1 : Int32) : Ci (d + 1) 101 [.ref 0, .int a0, .int a1] σ (fun r σ1 => Ci (d + 1) 292 [.ref 103, .int a0, .int a1] σ1 (fun r2 σ2 => r = r2 ∧ J σ2)) :=
  S_X_export h3 ⟨fun _ => S_M_export (Q := Qi fun r2 σ2 => -9 = r2 ∧ J σ2) ⟨fun _ => ⟨rfl, hJ⟩, fun z => absurd h.2 z⟩, fun z => absurd h.1 z⟩
theorem op_run0 {d : Nat} {σ : fkS} (h : r0 σ) (h3 : σ.2.2 0 3 = 4) {J : fkS → Prop} (hJ : J σ) (a0 a1 : Int32) : Ci (d + 1) 104 [.ref 0, .int a0, .int a1] σ (fun r σ1 => Ci (d + 1) 296 [.ref 103, .int a0, .int a1] σ1 (fun r2 σ2 => r = r2 ∧ J σ2)) :=
  S_X_run h3 ⟨fun _ => S_M_run (Q := Qi fun r2 σ2 => -1 = r2 ∧ J σ2) ⟨fun _ => ⟨rfl, hJ⟩, fun z => absurd h.2 z⟩, fun z => absurd h.1 z⟩
theorem op_global0 {d : Nat} {σ : fkS} (h : r0 σ) (h3 : σ.2.2 0 3 = 4) {J : fkS → Prop} (hJ : J σ) (a0 : Int32) : Cj (d + 1) 139 [.ref 0, .int a0] σ (fun r σ1 => Cj (d + 1) 321 [.ref 103, .int a0] σ1 (fun r2 σ2 => r = r2 ∧ J σ2)) :=
  S_X_global h3 ⟨fun _ => S_M_global (Q := Qj fun r2 σ2 => 0 = r2 ∧ J σ2) ⟨fun _ => ⟨rfl, hJ⟩, fun z => absurd h.2 z⟩, fun z => absurd h.1 z⟩
theorem op_memory0 {d : Nat} {σ : fkS} (h : r0 σ) {J : fkS → Prop} (hJ : J σ) (a0 : Int32) : Ci (d + 1) 140 [.ref 0, .int a0] σ (fun r σ1 => Ci (d + 1) 322 [.ref 103, .int a0] σ1 (fun r2 σ2 => r = r2 ∧ J σ2)) :=
  S_X_memory ⟨fun _ => S_M_memory (Q := Qi fun r2 σ2 => -1 = r2 ∧ J σ2) ⟨fun _ => ⟨rfl, hJ⟩, fun z => absurd h.2 z⟩, fun z => absurd h.1 z⟩
theorem op_table0 {d : Nat} {σ : fkS} (h : r0 σ) {J : fkS → Prop} (hJ : J σ) (a0 : Int32) : Ci d 141 [.ref 0, .int a0] σ (fun r σ1 => Ci d 323 [.ref 103, .int a0] σ1 (fun r2 σ2 => r = r2 ∧ J σ2)) :=
  S_X_table ⟨fun _ => S_M_table (Q := Qi fun r2 σ2 => -2 = r2 ∧ J σ2) ⟨fun _ => ⟨rfl, hJ⟩, fun z => absurd h.2 z⟩, fun z => absurd h.1 z⟩
/-- a program that can't be: n is not 1 .. how many bytes -/
theorem op_program0 {d : Nat} {σ : fkS} (h11 : σ.2.2 0 11 = 76) (h1 : σ.1 0 1 = σ.1 103 1) {J : fkS → Prop} (hJ : J σ) (a0 : Int32) (hn : ¬ a0 < 1 → ¬ a0 ≤ σ.1 0 1) : Ci (d + 1) 142 [.ref 0, .int a0] σ (fun r σ1 => Ci (d + 1) 324 [.ref 103, .int a0] σ1 (fun r2 σ2 => r = r2 ∧ J σ2)) := by
  have hM : Ci (d + 1) 324 [.ref 103, .int a0] σ (fun r2 σ2 => 0 = r2 ∧ J σ2) := S_M_program ⟨fun _ => ⟨rfl, hJ⟩, fun z => ⟨fun y => absurd (h1 ▸ y) (hn z), fun _ => ⟨rfl, hJ⟩⟩⟩
  exact S_X_program h11 ⟨fun _ => hM, fun z => ⟨fun y => absurd y (hn z), fun _ => hM⟩⟩
/-- no such module -/
theorem op_module0 {d : Nat} {σ : fkS} (h4 : σ.2.2 0 4 = 25) (h1 : σ.1 0 1 = σ.1 103 1) {J : fkS → Prop} (hJ : J σ) (a0 : Int32) (hn : ¬ a0 < 0 → ¬ a0 ≤ σ.1 0 1) : Ci (d + 1) 15 [.ref 0, .int a0] σ (fun r σ1 => Ci (d + 1) 239 [.ref 103, .int a0] σ1 (fun r2 σ2 => r = r2 ∧ J σ2)) := by
  have hM : Ci (d + 1) 239 [.ref 103, .int a0] σ (fun r2 σ2 => 0 = r2 ∧ J σ2) := S_M_module ⟨fun _ => ⟨rfl, hJ⟩, fun z => ⟨fun y => absurd (h1 ▸ y) (hn z), fun _ => ⟨rfl, hJ⟩⟩⟩
  exact S_X_module h4 ⟨fun _ => hM, fun z => ⟨fun y => absurd y (hn z), fun _ => hM⟩⟩
/-! THE FIRST CALL OF ALL -/
theorem fresh_moduleX {d : Nat} {σ0 : fkS} (g4 : σ0.2.2 0 4 = 25) (g1 : σ0.1 0 1 = 0) (gm : σ0.1 103 38 = 0 ∧ σ0.1 103 37 = 0 ∧ (∀ k, σ0.1 110 k = 0 ∧ σ0.1 116 k = 0) ∧ σ0.1 103 1 = 0) {Q : Int32 → fkS → Prop} (hQ : ∀ σ, σ.1 103 38 = 0 ∧ σ.1 103 37 = 0 ∧ (∀ k, σ.1 110 k = 0 ∧ σ.1 116 k = 0) ∧ σ.1 103 1 = 0 → Q (-1) σ) : Ci (d + 6) 15 [.ref 0, .int 0] σ0 Q := by
  refine S_X_module g4 ⟨fun z => absurd z (by decide), fun _ => ⟨fun _ => ⟨by decide, ?_⟩, fun z => absurd (by rw [g1]; decide) z⟩⟩
  refine S_ModuleReader_read ((c_clear).mono fun x σ1 hx => ?_)
  obtain ⟨rfl, e1, rfl⟩ := Qv_s hx
  refine ⟨e1, ?_⟩
  simp only [sW_eq e1]
  refine ⟨by decide, by decide, by decide, by decide, by decide, fun i hi => absurd hi (Nat.not_lt_zero _), ?_⟩
  refine S_Scan_begin ?_
  show Wq _ _ _ _ _ _ _
  generalize hτ : sI (sI (sI (sI (sR _ 46 0 26) 46 1 (0 : Int32)) 46 2 _) 46 3 (0 : Int32)) 46 4 (-1 : Int32) = τ
  have hR : RX (fun _ => 0) 0 0 0 τ := by
    subst hτ
    exact ⟨rfl, fun k hk => absurd hk (Nat.not_lt_zero _), by decide, by decide, rfl, rfl, by decide, fun _ => rfl⟩
  have h3 : τ.1 46 3 = 0 := by subst hτ; rfl
  have hc : τ.1 24 3 = τ.1 36 0 := by subst hτ; rfl
  have hm : τ.1 103 38 = 0 ∧ τ.1 103 37 = 0 ∧ (∀ k, τ.1 110 k = 0 ∧ τ.1 116 k = 0) ∧ τ.1 103 1 = 0 := by subst hτ; exact gm
  have h4 : τ.2.2 0 4 = 25 := by subst hτ; exact g4
  clear hτ
  refine S_ModuleReader_read_30 ⟨fun z => absurd z (by decide), fun _ => ?_⟩
  refine (c_fine0 h3).mono fun x σ2 hx => ?_
  obtain ⟨r, rfl, e2, rfl, rfl⟩ := Qi_s hx
  refine ⟨e2, ?_⟩
  simp only [sW_eq e2]
  refine ⟨fun z => absurd z (by decide), fun _ => ⟨vp_in_nI (n := 0) (by decide) (by decide), ?_⟩⟩
  refine (c_expect (d := d + 3) hR h3).mono fun x σ3 hx => ?_
  obtain ⟨rfl, e3, hu⟩ := Qv_s hx
  refine ⟨e3, ?_⟩
  simp only [sW_eq e3]
  unfold XR rX at hu
  rw [if_neg (fun z => absurd z.1 (by decide))] at hu
  obtain ⟨-, -, q, hq, rfl⟩ := hu
  generalize hω : ftX σ2 q (-1) (nI (if 0 < 0 then 0 else 0)) = ω
  have w3 : ω.1 46 3 = -1 := by subst hω; exact ftX_f _ _ _ _
  have hz : ¬ ω.1 46 3 = 0 := by rw [w3]; decide
  have wc : ω.1 24 3 = ω.1 36 0 := by subst hω; exact hc
  have wm : ω.1 103 38 = 0 ∧ ω.1 103 37 = 0 ∧ (∀ k, ω.1 110 k = 0 ∧ ω.1 116 k = 0) ∧ ω.1 103 1 = 0 := by subst hω; exact hm
  have w4 : ω.2.2 0 4 = 25 := by subst hω; exact h4
  clear hω
  refine S_ModuleReader_read_30 ⟨fun z => absurd z (by decide), fun _ => ?_⟩
  refine (c_finez hz).mono fun x σ2 hx => ?_
  obtain ⟨r, rfl, e4, rfl, rfl⟩ := Qi_s hx
  refine ⟨e4, ?_⟩
  simp only [sW_eq e4]
  refine ⟨fun _ => ?_, fun z => absurd trivial z⟩
  refine S_ModuleReader_read_76 ⟨fun z => absurd z (by decide), fun _ => ?_⟩
  generalize hυ : sI σ2 45 2 (0 : Int32) = υ
  have u3 : ¬ υ.1 46 3 = 0 := by subst hυ; exact hz
  have uc : υ.1 24 3 = υ.1 36 0 := by subst hυ; exact wc
  have um : υ.1 103 38 = 0 ∧ υ.1 103 37 = 0 ∧ (∀ k, υ.1 110 k = 0 ∧ υ.1 116 k = 0) ∧ υ.1 103 1 = 0 := by subst hυ; exact wm
  have u4 : υ.2.2 0 4 = 25 := by subst hυ; exact w4
  have uf : υ.1 46 3 = -1 := by subst hυ; exact w3
  clear hυ
  refine (c_finez u3).mono fun x σ2 hx => ?_
  obtain ⟨r, rfl, e5, rfl, rfl⟩ := Qi_s hx
  refine ⟨e5, ?_⟩
  simp only [sW_eq e5]
  refine ⟨fun _ => ⟨fun _ => ?_, fun z => absurd uc z⟩, fun z => absurd trivial z⟩
  refine S_X_module_35 u4 ⟨fun z => absurd z u3, fun _ => ?_⟩
  rw [uf]
  exact hQ _ um
theorem fresh_moduleM {d : Nat} {σ : fkS} {Q : Int32 → fkS → Prop} (h : σ.1 103 38 = 0 ∧ σ.1 103 37 = 0 ∧ (∀ k, σ.1 110 k = 0 ∧ σ.1 116 k = 0) ∧ σ.1 103 1 = 0) (hQ : ∀ σ, Q (-1) σ) : Ci (d + 6) 239 [.ref 103, .int 0] σ Q := by
  obtain ⟨h38, h37, hk, h1⟩ := h
  refine S_M_module ⟨fun z => absurd z (by decide), fun _ => ⟨fun _ => ?_, fun z => absurd (by rw [h1]; decide) z⟩⟩
  refine S_M_module_26 ⟨fun _ => ?_, fun z => absurd (by decide) z⟩
  generalize hτ : sI (sI (sI (sI σ 103 38 ((1 : Int32) - (σ.1 103 37))) 103 1 (0 : Int32)) 103 2 (-1 : Int32)) 103 58 (0 : Int32) = τ
  have z1 : τ.1 103 38 = 1 := by
    subst hτ
    show (1 : Int32) - σ.1 103 37 = 1
    rw [h37]
    rfl
  have zk : ∀ k, τ.1 110 k = 0 ∧ τ.1 116 k = 0 := by subst hτ; exact hk
  clear hτ
  have key : Cv (d + 5) 240 [.ref 103, .int 0] τ (fun σ' => σ'.1 103 42 = -1) := by
    have v2 : vp_in (τ.1 103 38) 2 := by rw [z1]; exact vp_in_nI (n := 1) (by decide) (by decide)
    refine S_M_reads ⟨v2, v2, v2, v2, v2, v2, v2, v2, ?_⟩
    rw [z1]
    generalize hυ : sI (sI (sI (sI (sI (sI (sI (sI (sI (sI (sI τ 103 40 (0 : Int32)) 103 41 0) 103 42 (0 : Int32)) 106 _ (0 : Int32)) 110 _ (0 : Int32)) 111 _ (0 : Int32)) 112 _ (0 : Int32)) 113 _ (0 : Int32)) 114 _ (0 : Int32)) 115 _ (0 : Int32)) 116 _ (0 : Int32) = υ
    have hR : RM (fun _ => 0) 1 0 0 0 υ := by
      subst hυ
      exact ⟨by decide, z1, fun k hk => absurd hk (Nat.not_lt_zero _), by decide, by decide, rfl, rfl, by decide⟩
    have h3 : υ.1 103 42 = 0 := by subst hυ; rfl
    have h11 : υ.1 110 1 = 0 ∧ υ.1 116 1 = 0 := by subst hυ; exact ⟨rfl, rfl⟩
    clear hυ
    refine (c_must (d := d + 1) hR h3).mono fun x σ1 hx => ?_
    obtain ⟨rfl, hu⟩ := Qv_s hx
    unfold MR rX at hu
    rw [if_neg (fun z => absurd z.1 (by decide))] at hu
    obtain ⟨-, -, q, hq, rfl⟩ := hu
    generalize hω : ftM υ q (-1) (nI (if 0 < 0 then 0 else 0)) = ω
    have w3 : ω.1 103 42 = -1 := by subst hω; exact ftM_f _ _ _ _
    have wz : ¬ ω.1 103 42 = 0 := by rw [w3]; decide
    have w11 : ω.1 110 1 = 0 ∧ ω.1 116 1 = 0 := by subst hω; exact h11
    have w38 : ω.1 103 38 = 1 := by subst hω; exact hR.2.1
    clear hω
    show Cv _ _ _ _ _
    refine (c_mustz (d := d + 1) wz).mono fun x σ1 hx => ?_
    obtain ⟨rfl, rfl⟩ := Qv_s hx
    refine (c_mustz (d := d + 1) wz).mono fun x σ1 hx => ?_
    obtain ⟨rfl, rfl⟩ := Qv_s hx
    refine (c_mustz (d := d + 1) wz).mono fun x σ1 hx => ?_
    obtain ⟨rfl, rfl⟩ := Qv_s hx
    refine (c_mustz (d := d + 1) wz).mono fun x σ1 hx => ?_
    obtain ⟨rfl, rfl⟩ := Qv_s hx
    refine (c_mustz (d := d + 1) wz).mono fun x σ1 hx => ?_
    obtain ⟨rfl, rfl⟩ := Qv_s hx
    refine (c_mustz (d := d + 1) wz).mono fun x σ1 hx => ?_
    obtain ⟨rfl, rfl⟩ := Qv_s hx
    refine (c_mustz (d := d + 1) wz).mono fun x σ1 hx => ?_
    obtain ⟨rfl, rfl⟩ := Qv_s hx
    refine S_M_reads_140 ⟨fun _ => ?_, fun z => absurd z wz⟩
    have v2 : vp_in (σ1.1 103 38) 2 := by rw [w38]; exact vp_in_nI (n := 1) (by decide) (by decide)
    refine S_M_reads_294 ⟨v2, v2, ?_⟩
    rw [w38]
    exact ⟨fun _ => w3, fun z => absurd (w11.1.trans w11.2.symm) z⟩
  refine key.mono fun x σ1 hx => ?_
  obtain ⟨rfl, hu⟩ := Qv_s hx
  refine ⟨fun z => absurd (hu.symm.trans z) (by decide), fun _ => ?_⟩
  rw [hu]
  exact hQ _
/-- every first call answers alike -/
theorem ops_fresh {J : fkS → Prop} (hJ : ∀ σ, J σ) : OPS J fk_s0 := by
  have hr : r0 fk_s0 := ⟨rfl, rfl⟩
  have hB : tB fk_s0 (fun _ => 0) 0 := ⟨by decide, ⟨rfl, fun k hk => absurd hk (Nat.not_lt_zero _)⟩, ⟨rfl, fun k hk => absurd hk (Nat.not_lt_zero _)⟩⟩
  refine ⟨fun a0 a1 a2 a3 a4 => op_feed hB (fun _ _ _ _ _ => hJ _) a0 a1 a2 a3 a4, fun a0 => ?_, op_place rfl (hJ _), fun a0 => op_count0 hr rfl (hJ _) a0, fun a0 a1 => op_export0 hr rfl (hJ _) a0 a1, fun a0 a1 => op_argument (fun k hk => rfl) (fun _ _ _ => hJ _) a0 a1, fun a0 a1 => op_run0 hr rfl (hJ _) a0 a1, fun a0 => op_outcome ⟨rfl, rfl, rfl⟩ (hJ _) a0, fun a0 => op_global0 hr rfl (hJ _) a0, fun a0 => op_memory0 hr (hJ _) a0, fun a0 => op_table0 hr (hJ _) a0, fun a0 => ?_, fun a0 => ?_, fun a0 => op_spent ⟨rfl, rfl, rfl⟩ (hJ _) a0⟩
  · by_cases h0 : a0 = 0
    · subst h0
      exact fresh_moduleX (d := 1994) rfl rfl ⟨rfl, rfl, fun k => ⟨rfl, rfl⟩, rfl⟩ fun σ h => fresh_moduleM (d := 1994) h fun σ => ⟨rfl, hJ _⟩
    · refine op_module0 rfl rfl (hJ _) a0 fun z y => h0 ?_
      obtain ⟨j, hj, rfl⟩ := nI_of z
      have : j ≤ 0 := (nI_leI (b := 0) hj (by decide)).mp y
      have : j = 0 := by omega
      subst this
      rfl
  · refine op_program0 rfl rfl (hJ _) a0 fun z y => ?_
    have h1 : (1 : Int32) ≤ a0 := Int32.not_lt.mp z
    have h2 : (1 : Int32) ≤ 0 := Int32.le_trans h1 y
    exact absurd h2 (by decide)
  · have hX : Di 1999 218 [.ref 62, .int a0] fk_s0 (fun r σ' => r = 0 ∧ σ' = fk_s0) := by
      exact S_Program_takesAndGivesInt ⟨fun _ => ⟨rfl, rfl, rfl⟩, fun z => ⟨fun _ => ⟨rfl, rfl, rfl⟩, fun y => absurd (Int32.not_lt.mp z) y⟩⟩
    refine S_X_call rfl ⟨by decide, hX.mono fun x σ1 hx => ?_⟩
    obtain ⟨r, rfl, e1, rfl, rfl⟩ := Qi_s hx
    refine ⟨e1, ?_⟩
    simp only [sW_eq e1]
    refine ⟨fun z => absurd trivial z, fun _ => ?_⟩
    refine S_M_call ((c_isIn (d := 1999) (a := a0) (n := fk_s0.1 103 126)).mono fun x σ1 hx => ?_)
    obtain ⟨r, rfl, rfl, hr⟩ := Qi_s hx
    rcases hr with ⟨z, y, -⟩ | ⟨-, rfl⟩
    · exact absurd y z
    · exact ⟨fun _ => ⟨rfl, hJ _⟩, fun z => absurd rfl z⟩
