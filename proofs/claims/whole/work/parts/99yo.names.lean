/-! NAMES as numbers: the same number, the same NAME -/
def wr : List Nat → Nat
  | [] => 0
  | c :: L => wr L * 37 + wvD c
theorem wvD_in {c : Nat} (h : cW c = true) : 1 ≤ wvD c ∧ wvD c ≤ 36 := by
  unfold cW cL cD at h
  unfold wvD cL
  simp only [Bool.or_eq_true, Bool.and_eq_true, decide_eq_true_eq] at h ⊢
  split <;> omega
theorem wvD_inj {c d : Nat} (hc : cW c = true) (hd : cW d = true) (h : wvD c = wvD d) : c = d := by
  unfold cW cL cD at hc hd
  unfold wvD cL at h
  simp only [Bool.or_eq_true, Bool.and_eq_true, decide_eq_true_eq] at hc hd h
  split at h <;> split at h <;> omega
theorem wr_inj : ∀ (L M : List Nat), (∀ c ∈ L, cW c = true) → (∀ c ∈ M, cW c = true) → wr L = wr M → L = M
  | [], [], _, _, _ => rfl
  | [], d :: M, _, hM, h => by
    have := (wvD_in (hM d List.mem_cons_self)).1
    have h2 : 0 = wr M * 37 + wvD d := h
    omega
  | c :: L, [], hL, _, h => by
    have := (wvD_in (hL c List.mem_cons_self)).1
    have h2 : wr L * 37 + wvD c = 0 := h
    omega
  | c :: L, d :: M, hL, hM, h => by
    have h1 := wvD_in (hL c List.mem_cons_self)
    have h2 := wvD_in (hM d List.mem_cons_self)
    have h3 : wr L * 37 + wvD c = wr M * 37 + wvD d := h
    have e1 : wvD c = wvD d := by omega
    have e2 : wr L = wr M := by omega
    rw [wvD_inj (hL c List.mem_cons_self) (hM d List.mem_cons_self) e1, wr_inj L M (fun x hx => hL x (List.mem_cons_of_mem _ hx)) (fun x hx => hM x (List.mem_cons_of_mem _ hx)) e2]
theorem wr_lt : ∀ (L : List Nat), (∀ c ∈ L, cW c = true) → wr L < 37 ^ L.length
  | [], _ => by decide
  | c :: L, h => by
    have h1 := wvD_in (h c List.mem_cons_self)
    have h2 := wr_lt L (fun x hx => h x (List.mem_cons_of_mem _ hx))
    show wr L * 37 + wvD c < 37 ^ (L.length + 1)
    rw [Nat.pow_succ]
    omega
section WN
variable {t : Nat → UInt8} {n : Nat}
theorem tw_cons (i k : Nat) : tw t i (i + (k + 1)) = (t i).toNat :: tw t (i + 1) (i + 1 + k) := by
  unfold tw
  rw [Nat.add_sub_cancel_left, Nat.add_sub_cancel_left, List.range_succ_eq_map, List.map_cons, List.map_map]
  refine congr (congrArg List.cons rfl) (List.map_inj_left.mpr fun a _ => ?_)
  show (t (i + (a + 1))).toNat = (t (i + 1 + a)).toNat
  rw [show i + (a + 1) = i + 1 + a by omega]
theorem wvG_eq : ∀ (k i : Nat) (R : List Nat), wvG t k i (lN (wr R)) = lN (wr ((tw t i (i + k)).reverse ++ R))
  | 0, i, R => by
    rw [wvG]
    have : tw t i (i + 0) = [] := by unfold tw; rw [Nat.add_zero, Nat.sub_self]; rfl
    rw [this]
    rfl
  | k + 1, i, R => by
    rw [wvG, tw_cons]
    have e : lN (wr R) * 37 + Int64.ofNat (wvD (t i).toNat) = lN (wr ((t i).toNat :: R)) := by
      show lN (wr R) * lN 37 + lN (wvD (t i).toNat) = lN (wr R * 37 + wvD (t i).toNat)
      rw [lN_mul, lN_add]
    rw [e, wvG_eq k (i + 1) ((t i).toNat :: R), List.reverse_cons, List.append_assoc]
    rfl
theorem wv_wr (a z : Nat) : wv t a z = lN (wr (nmT t a z).reverse) := by
  unfold wv wvT nmT
  rw [Nat.add_sub_cancel_left]
  have := wvG_eq (t := t) z a []
  rw [List.append_nil] at this
  exact this
theorem lN_inj {a b : Nat} (ha : a < 2 ^ 63) (hb : b < 2 ^ 63) (h : lN a = lN b) : a = b := by
  have h2 : (BitVec.ofNat 64 a).toNat = (BitVec.ofNat 64 b).toNat := congrArg (fun x : Int64 => x.toBitVec.toNat) h
  rw [BitVec.toNat_ofNat, BitVec.toNat_ofNat, Nat.mod_eq_of_lt (by omega), Nat.mod_eq_of_lt (by omega)] at h2
  exact h2
theorem tok_nm (p : Nat) : (tok t n p).1 = 1 → (tok t n p).2.2.1 - (tok t n p).2.1 ≤ 10 ∧ ∀ j, (tok t n p).2.1 ≤ j → j < (tok t n p).2.2.1 → cW (t j).toNat = true := by
  unfold tok tokA
  simp only
  repeat' split
  all_goals first | (rename_i z; intro _; exact ⟨z, fun j h1 h2 => runP_all _ j h1 h2⟩) | (intro z; simp at z)
theorem nm_ok {a z : Nat} (h : nmOK t n a z) : (nmT t a z).length ≤ 10 ∧ ∀ c ∈ nmT t a z, cW c = true := by
  obtain ⟨i, h1, h2, h3⟩ := h
  have k1 := (kX_name.mp h1).1
  obtain ⟨p, hp, e⟩ := tkAt_to (t := t) (n := n) i
  have ht := tok_nm (t := t) (n := n) p
  rw [← e] at ht
  obtain ⟨q1, q2⟩ := ht k1
  have hl := tkAt_le (t := t) (n := n) i
  unfold nmT
  refine ⟨?_, fun c hc => ?_⟩
  · rw [tw_len]
    omega
  · unfold tw at hc
    obtain ⟨j, hj, rfl⟩ := List.mem_map.mp hc
    have := List.mem_range.mp hj
    exact q2 (a + j) (by omega) (by omega)
/-- the same number, the same NAME -/
theorem wv_iff {a z b y : Nat} (h1 : nmOK t n a z) (h2 : nmOK t n b y) : wv t a z = wv t b y ↔ nmT t a z = nmT t b y := by
  obtain ⟨l1, c1⟩ := nm_ok h1
  obtain ⟨l2, c2⟩ := nm_ok h2
  rw [wv_wr, wv_wr]
  refine ⟨fun h => ?_, fun h => by rw [h]⟩
  have d1 : ∀ c ∈ (nmT t a z).reverse, cW c = true := fun c hc => c1 c (List.mem_reverse.mp hc)
  have d2 : ∀ c ∈ (nmT t b y).reverse, cW c = true := fun c hc => c2 c (List.mem_reverse.mp hc)
  have b1 := wr_lt _ d1
  have b2 := wr_lt _ d2
  rw [List.length_reverse] at b1 b2
  have p1 : 37 ^ (nmT t a z).length ≤ 37 ^ 10 := Nat.pow_le_pow_right (by decide) l1
  have p2 : 37 ^ (nmT t b y).length ≤ 37 ^ 10 := Nat.pow_le_pow_right (by decide) l2
  have p3 : (37 : Nat) ^ 10 < 2 ^ 63 := by decide
  have e := lN_inj (by omega) (by omega) h
  have := wr_inj _ _ d1 d2 e
  exact List.reverse_inj.mp this
theorem lg_0 {a b : Int64} : lg_cmp a b = 0 ↔ a = b := lg_eq
end WN
