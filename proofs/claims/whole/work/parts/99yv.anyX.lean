/-! THE CLASS judges an E -/
section ZX
variable {t : Nat → UInt8} {n d en : Nat} {D : List FD} {σ0 : fkS} {v1 : Int32} {Q : Option Value → fkS → Prop}
def KX0 (t : Nat → UInt8) (n d en : Nat) (D : List FD) (σ0 : fkS) (v1 : Int32) (Q : Option Value → fkS → Prop) (T : Tr) : Prop := ∀ (A Z : List cdE) (p : Nat) (Ts : List Nat) (pe : List pE1) (Ps : List Nat) (w : Option Nat), okT t n T 0 0 0 0 → p = A.length → p + ln T ≤ en → sz T ≤ 400 → Ts.length + 2 * sz T ≤ 1990 → pe.length + nD T ≤ 100 → Ps.length + pD T ≤ 40 → HP Ts pe → RS t n d en D σ0 v1 Q (A ++ (cg t (rsV t) (rsF t D) T p Ts.length (esl t pe) ++ Z)) (p + ln T) (ckT t D T (ety t pe) :: Ts) pe Ps (m2 w (ckF t D T (ety t pe))) → RS t n d en D σ0 v1 Q (A ++ (cr t T p ++ Z)) p Ts pe Ps w
def KX1 (t : Nat → UInt8) (n d en : Nat) (D : List FD) (σ0 : fkS) (v1 : Int32) (Q : Option Value → fkS → Prop) (T : Tr) : Prop := ∀ (A Z : List cdE) (p : Nat) (Ts : List Nat) (pe : List pE1) (Ps : List Nat) (w : Option Nat) (a z k : Nat), okT t n T 1 a z k → nmOK t n a z → k + sz T ≤ 400 → p = A.length → p + ln T ≤ en → Ts.length + 2 * sz T ≤ 1990 → pe.length + nD T ≤ 100 → Ps.length + pD T ≤ 40 → HP Ts pe → (∀ L : List Nat, L.length = cnt T → RS t n d en D σ0 v1 Q (A ++ (cg t (rsV t) (rsF t D) T p Ts.length (esl t pe) ++ Z)) (p + ln T) (L ++ Ts) pe Ps (m2 w (ckF t D T (ety t pe)))) → RS t n d en D σ0 v1 Q (A ++ (cr t T p ++ Z)) p Ts pe Ps w
def KX2 (t : Nat → UInt8) (n d en : Nat) (D : List FD) (σ0 : fkS) (v1 : Int32) (Q : Option Value → fkS → Prop) (T : Tr) : Prop := ∀ (A Z : List cdE) (p : Nat) (Ts : List Nat) (pe : List pE1) (Ps : List Nat) (w : Option Nat), okT t n T 2 0 0 0 → p = A.length → p + ln T ≤ en → sz T ≤ 400 → Ts.length + 2 * sz T ≤ 1990 → pe.length + nD T ≤ 100 → Ps.length + pD T ≤ 40 → HP Ts pe → RS t n d en D σ0 v1 Q (A ++ (cg t (rsV t) (rsF t D) T p Ts.length (esl t pe) ++ Z)) (p + ln T) (ckU t D T (ety t pe) :: Ts) pe (ckT t D T (ety t pe) :: Ps) (m2 w (ckF t D T (ety t pe))) → RS t n d en D σ0 v1 Q (A ++ (cr t T p ++ Z)) p Ts pe Ps w
def KX3 (t : Nat → UInt8) (n d en : Nat) (D : List FD) (σ0 : fkS) (v1 : Int32) (Q : Option Value → fkS → Prop) (T : Tr) : Prop := ∀ (A Z : List cdE) (p : Nat) (Ts : List Nat) (pe : List pE1) (Ps : List Nat) (w : Option Nat), okT t n T 3 0 0 0 → p = A.length → p + ln T ≤ en → sz T ≤ 400 → Ts.length + 2 + 2 * sz T ≤ 1990 → pe.length + nD T ≤ 100 → Ps.length + pD T ≤ 40 → HP Ts pe → (∀ M : List pE1, M.length = 2 → RS t n d en D σ0 v1 Q (A ++ (cg t (rsV t) (rsF t D) T p Ts.length (esl t pe) ++ Z)) (p + ln T) (ckU t D T (ety t pe) :: ([2, 1] ++ Ts)) (M ++ pe) (ckT t D T (ety t pe) :: Ps) (m2 w (ckF t D T (ety t pe)))) → RS t n d en D σ0 v1 Q (A ++ (cr t T p ++ Z)) p Ts pe Ps w
theorem isC_T {T : Tr} {e : List (List Nat × Nat)} (h : isC T) : ckT t D T e = 1 := by
  cases T with
  | leaf => exact h.elim
  | inner k v u l r =>
    rcases h with h | h
    · subst h; rfl
    · subst h; rfl
theorem sz_1 {T : Tr} (h : okT t n T 0 0 0 0) : 1 ≤ sz T := by
  have := (ln_sz _ _ _ _ _ h).1 rfl
  omega
set_option maxHeartbeats 8000000 in
theorem x_chk0 (hn : n ≤ 4000) (hen : en ≤ 3000) {kd a b c d0 : Nat} {l r : Tr} (hl : KX0 t n d en D σ0 v1 Q l) (hl1 : KX1 t n d en D σ0 v1 Q l) (hr : KX0 t n d en D σ0 v1 Q r) (hr2 : KX2 t n d en D σ0 v1 Q r) (hr3 : KX3 t n d en D σ0 v1 Q r) : KX0 t n d en D σ0 v1 Q (nd kd a b c d0 l r) := by
  intro A Z p Ts pe Ps w ho hp hen1 hs0 hs hnd hpd hb go
  subst hp
  obtain ⟨k2, _, _, _, _, _, _, e2, hk⟩ := ok_k ho
  have ek : kd = k2 := by cases e2; rfl
  have hk' : kd ≤ 12 := by omega
  clear e2 hk ek
  rcases (show kd = 0 ∨ kd = 1 ∨ kd = 2 ∨ kd = 3 ∨ kd = 4 ∨ kd = 5 ∨ kd = 6 ∨ kd = 7 ∨ kd = 8 ∨ kd = 9 ∨ kd = 10 ∨ kd = 11 ∨ kd = 12 by omega) with rfl | rfl | rfl | rfl | rfl | rfl | rfl | rfl | rfl | rfl | rfl | rfl | rfl
  · obtain ⟨-, o2, -, -⟩ := ok_0.mp ho
    rw [ln_0] at hen1
    have hs1 : 1 ≤ 400 := hs0
    have hs2 : Ts.length + 2 * (1) ≤ 1990 := hs
    rw [cg_0, ln_0, cT_0, cF_0] at go
    rw [cr_0]
    refine RS.cs (r_int (p := 0) (x := lN a) (u := nI b) A Z (by omega) (by omega) hen ?_) (by simp only [List.append_assoc, List.cons_append, List.nil_append, List.length_cons, esl_c, ety_c]) (by (try simp only [List.length_append, List.length_cons, List.length_nil, cg_len]) <;> omega) rfl
    exact RS.cs go (by simp only [List.append_assoc, List.cons_append, List.nil_append, List.length_cons, esl_c, ety_c]) rfl (m2_n w).symm
  · obtain ⟨o1, o2, o3, o4, o5⟩ := ok_1.mp ho
    have s1 := sz_1 o4
    rw [ln_1] at hen1
    have hs1 : a + sz l ≤ 400 := hs0
    have hs2 : Ts.length + 2 * (a + sz l) ≤ 1990 := hs
    have hn2 : pe.length + max (nD l) (nD r) ≤ 100 := hnd
    have hp2 : Ps.length + max (pD l) (pD r) ≤ 40 := hpd
    rw [cg_1, ln_1, cT_1, cF_1] at go
    rw [cr_1]
    rcases Nat.mod_two_eq_zero_or_one a with e | e
    · rw [e] at hen1 go
      rw [if_neg (by decide)] at go
      rw [if_neg (by omega)]
      refine RS.cs (hl (A) (((14 : Int32), (1 : Int64), nI b, (0 : Int32)) :: Z) (A.length) (Ts) (pe) (Ps) _ o4 (by (try simp only [List.length_append, List.length_cons, List.length_nil, cg_len]) <;> omega) (by omega) (by omega) (by (try simp only [List.length_cons]) <;> omega) (by (try simp only [List.length_cons]) <;> omega) (by (try simp only [List.length_cons]) <;> omega) (hb) ?_) (by simp only [List.append_assoc, List.cons_append, List.nil_append, List.length_cons, esl_c, ety_c]) (by (try simp only [List.length_append, List.length_cons, List.length_nil, cg_len]) <;> omega) rfl
      refine RS.cs (r_wnt (A ++ cg t (rsV t) (rsF t D) l A.length Ts.length (esl t pe)) (Z) (y := 1) (p := b) (v := 1) rfl (by decide) o3 (by (try simp only [List.length_append, List.length_cons, List.length_nil, cg_len]) <;> omega) hen ?_) (by simp only [List.append_assoc, List.cons_append, List.nil_append, List.length_cons, esl_c, ety_c]) (by (try simp only [List.length_append, List.length_cons, List.length_nil, cg_len]) <;> omega) rfl
      exact RS.cs go (by simp only [List.append_assoc, List.cons_append, List.nil_append, List.length_cons, esl_c, ety_c]) (by (try simp only [List.length_append, List.length_cons, List.length_nil, cg_len]) <;> omega) (by simp only [m2_a])
    · rw [e] at hen1 go
      rw [if_pos rfl] at go
      rw [if_pos e]
      refine RS.cs (hl (A) (((14 : Int32), (1 : Int64), nI b, (0 : Int32)) :: ((7 : Int32), (0 : Int64), (0 : Int32), (0 : Int32)) :: Z) (A.length) (Ts) (pe) (Ps) _ o4 (by (try simp only [List.length_append, List.length_cons, List.length_nil, cg_len]) <;> omega) (by omega) (by omega) (by (try simp only [List.length_cons]) <;> omega) (by (try simp only [List.length_cons]) <;> omega) (by (try simp only [List.length_cons]) <;> omega) (hb) ?_) (by simp only [List.append_assoc, List.cons_append, List.nil_append, List.length_cons, esl_c, ety_c]) (by (try simp only [List.length_append, List.length_cons, List.length_nil, cg_len]) <;> omega) rfl
      refine RS.cs (r_wnt (A ++ cg t (rsV t) (rsF t D) l A.length Ts.length (esl t pe)) (((7 : Int32), (0 : Int64), (0 : Int32), (0 : Int32)) :: Z) (y := 1) (p := b) (v := 1) rfl (by decide) o3 (by (try simp only [List.length_append, List.length_cons, List.length_nil, cg_len]) <;> omega) hen ?_) (by simp only [List.append_assoc, List.cons_append, List.nil_append, List.length_cons, esl_c, ety_c]) (by (try simp only [List.length_append, List.length_cons, List.length_nil, cg_len]) <;> omega) rfl
      refine RS.cs (r_neg (p := 0) (A ++ (cg t (rsV t) (rsF t D) l A.length Ts.length (esl t pe) ++ [((14 : Int32), (1 : Int64), nI b, (0 : Int32))])) Z (by (try simp only [List.length_append, List.length_cons, List.length_nil, cg_len]) <;> omega) hen ?_) (by simp only [List.append_assoc, List.cons_append, List.nil_append, List.length_cons, esl_c, ety_c]) (by (try simp only [List.length_append, List.length_cons, List.length_nil, cg_len]) <;> omega) rfl
      exact RS.cs go (by simp only [List.append_assoc, List.cons_append, List.nil_append, List.length_cons, esl_c, ety_c]) (by (try simp only [List.length_append, List.length_cons, List.length_nil, cg_len]) <;> omega) (by simp only [m2_a])
  · obtain ⟨o1, -, -⟩ := ok_2.mp ho
    rw [ln_2] at hen1
    have hs1 : 1 ≤ 400 := hs0
    have hs2 : Ts.length + 2 * (1) ≤ 1990 := hs
    rw [cg_2, ln_2, cT_2, cF_2] at go
    rw [cr_2]
    refine RS.cs (r_nm A Z hn o1 (by omega) hb (by omega) hen ?_) (by simp only [List.append_assoc, List.cons_append, List.nil_append, List.length_cons, esl_c, ety_c]) (by (try simp only [List.length_append, List.length_cons, List.length_nil, cg_len]) <;> omega) rfl
    exact RS.cs go (by simp only [List.append_assoc, List.cons_append, List.nil_append, List.length_cons, esl_c, ety_c]) rfl rfl
  · obtain ⟨o1, o2, o3, o4, -⟩ := ok_3.mp ho
    rw [ln_3] at hen1
    have hs1 : 1 + sz l ≤ 400 := hs0
    have hs2 : Ts.length + 2 * (1 + sz l) ≤ 1990 := hs
    have hn2 : pe.length + max (nD l) (nD r) ≤ 100 := hnd
    have hp2 : Ps.length + max (pD l) (pD r) ≤ 40 := hpd
    rw [cg_3, ln_3, cT_3, cF_3] at go
    rw [cr_3]
    refine RS.cs (hl1 A (((2 : Int32), wv t a b, nI a, nI c) :: Z) A.length Ts pe Ps _ a b 0 o4 o1 (by omega) rfl (by omega) (by omega) (by omega) (by omega) hb (fun L hL => ?_)) (by simp only [List.append_assoc, List.cons_append, List.nil_append, List.length_cons, esl_c, ety_c]) (by (try simp only [List.length_append, List.length_cons, List.length_nil, cg_len]) <;> omega) rfl
    refine RS.cs (r_call (A ++ cg t (rsV t) (rsF t D) l A.length Ts.length (esl t pe)) Z hn (hL.trans o2.symm) o1 (by omega) (by (try simp only [List.length_append, List.length_cons, List.length_nil, cg_len]) <;> omega) hen ?_) (by simp only [List.append_assoc, List.cons_append, List.nil_append, List.length_cons, esl_c, ety_c]) (by (try simp only [List.length_append, List.length_cons, List.length_nil, cg_len]) <;> omega) rfl
    exact RS.cs go (by simp only [List.append_assoc, List.cons_append, List.nil_append, List.length_cons, esl_c, ety_c]) (by (try simp only [List.length_append, List.length_cons, List.length_nil, cg_len]) <;> omega) (by rw [m2_a, m2_c (ckF t D l (ety t pe))])
  · obtain ⟨o1, o2, -, -⟩ := ok_4.mp ho
    rw [ln_4] at hen1
    have hs1 : 1 ≤ 400 := hs0
    have hs2 : Ts.length + 2 * (1) ≤ 1990 := hs
    rw [cg_4, ln_4, cT_4, cF_4] at go
    rw [cr_4]
    refine RS.cs (r_act A Z hn o2 o1 (by omega) (by omega) hen ?_) (by simp only [List.append_assoc, List.cons_append, List.nil_append, List.length_cons, esl_c, ety_c]) (by (try simp only [List.length_append, List.length_cons, List.length_nil, cg_len]) <;> omega) rfl
    exact RS.cs go (by simp only [List.append_assoc, List.cons_append, List.nil_append, List.length_cons, esl_c, ety_c]) rfl rfl
  · obtain ⟨o1, -, -⟩ := ok_5.mp ho
    rw [ln_5] at hen1
    have hs1 : 1 ≤ 400 := hs0
    have hs2 : Ts.length + 2 * (1) ≤ 1990 := hs
    rw [cg_5, ln_5, cT_5, cF_5] at go
    rw [cr_5]
    refine RS.cs (r_nil (p := 0) (x := 0) (u := nI a) A Z (by omega) (by omega) hen ?_) (by simp only [List.append_assoc, List.cons_append, List.nil_append, List.length_cons, esl_c, ety_c]) (by (try simp only [List.length_append, List.length_cons, List.length_nil, cg_len]) <;> omega) rfl
    exact RS.cs go (by simp only [List.append_assoc, List.cons_append, List.nil_append, List.length_cons, esl_c, ety_c]) rfl (m2_n w).symm
  · obtain ⟨o1, o2, o3, o4⟩ := ok_6.mp ho
    have s1 := sz_1 o3
    rw [ln_6] at hen1
    have hs1 : 1 + sz l + sz r ≤ 400 := hs0
    have hs2 : Ts.length + 2 * (1 + sz l + sz r) ≤ 1990 := hs
    have hn2 : pe.length + max (nD l) (nD r) ≤ 100 := hnd
    have hp2 : Ps.length + max (pD l) (pD r) ≤ 40 := hpd
    rw [cg_6, ln_6, cT_6, cF_6] at go
    rw [cr_6]
    have s2 := sz_1 o4
    refine RS.cs (hl (A) (((14 : Int32), (1 : Int64), nI a, (0 : Int32)) :: (cr t r (A.length + ln l + 1) ++ ((14 : Int32), (2 : Int64), nI b, (0 : Int32)) :: ((5 : Int32), (0 : Int64), (0 : Int32), (0 : Int32)) :: Z)) (A.length) (Ts) (pe) (Ps) _ o3 (by (try simp only [List.length_append, List.length_cons, List.length_nil, cg_len]) <;> omega) (by omega) (by omega) (by (try simp only [List.length_cons]) <;> omega) (by (try simp only [List.length_cons]) <;> omega) (by (try simp only [List.length_cons]) <;> omega) (hb) ?_) (by simp only [List.append_assoc, List.cons_append, List.nil_append, List.length_cons, esl_c, ety_c]) (by (try simp only [List.length_append, List.length_cons, List.length_nil, cg_len]) <;> omega) rfl
    refine RS.cs (r_wnt (A ++ cg t (rsV t) (rsF t D) l A.length Ts.length (esl t pe)) (cr t r (A.length + ln l + 1) ++ ((14 : Int32), (2 : Int64), nI b, (0 : Int32)) :: ((5 : Int32), (0 : Int64), (0 : Int32), (0 : Int32)) :: Z) (y := 1) (p := a) (v := 1) rfl (by decide) o1 (by (try simp only [List.length_append, List.length_cons, List.length_nil, cg_len]) <;> omega) hen ?_) (by simp only [List.append_assoc, List.cons_append, List.nil_append, List.length_cons, esl_c, ety_c]) (by (try simp only [List.length_append, List.length_cons, List.length_nil, cg_len]) <;> omega) rfl
    refine RS.cs (hr (A ++ (cg t (rsV t) (rsF t D) l A.length Ts.length (esl t pe) ++ [((14 : Int32), (1 : Int64), nI a, (0 : Int32))])) (((14 : Int32), (2 : Int64), nI b, (0 : Int32)) :: ((5 : Int32), (0 : Int64), (0 : Int32), (0 : Int32)) :: Z) (A.length + ln l + 1) (1 :: Ts) (pe) (Ps) _ o4 (by (try simp only [List.length_append, List.length_cons, List.length_nil, cg_len]) <;> omega) (by omega) (by omega) (by (try simp only [List.length_cons]) <;> omega) (by (try simp only [List.length_cons]) <;> omega) (by (try simp only [List.length_cons]) <;> omega) (hb.up) ?_) (by simp only [List.append_assoc, List.cons_append, List.nil_append, List.length_cons, esl_c, ety_c]) (by (try simp only [List.length_append, List.length_cons, List.length_nil, cg_len]) <;> omega) rfl
    refine RS.cs (r_wnt (A ++ (cg t (rsV t) (rsF t D) l A.length Ts.length (esl t pe) ++ ((14 : Int32), (1 : Int64), nI a, (0 : Int32)) :: cg t (rsV t) (rsF t D) r (A.length + ln l + 1) (Ts.length + 1) (esl t pe))) (((5 : Int32), (0 : Int64), (0 : Int32), (0 : Int32)) :: Z) (y := 2) (p := b) (v := 2) rfl (by decide) o2 (by (try simp only [List.length_append, List.length_cons, List.length_nil, cg_len]) <;> omega) hen ?_) (by simp only [List.append_assoc, List.cons_append, List.nil_append, List.length_cons, esl_c, ety_c]) (by (try simp only [List.length_append, List.length_cons, List.length_nil, cg_len]) <;> omega) rfl
    refine RS.cs (r_cons (p := 0) (A ++ (cg t (rsV t) (rsF t D) l A.length Ts.length (esl t pe) ++ ((14 : Int32), (1 : Int64), nI a, (0 : Int32)) :: (cg t (rsV t) (rsF t D) r (A.length + ln l + 1) (Ts.length + 1) (esl t pe) ++ [((14 : Int32), (2 : Int64), nI b, (0 : Int32))]))) Z (by (try simp only [List.length_append, List.length_cons, List.length_nil, cg_len]) <;> omega) hen ?_) (by simp only [List.append_assoc, List.cons_append, List.nil_append, List.length_cons, esl_c, ety_c]) (by (try simp only [List.length_append, List.length_cons, List.length_nil, cg_len]) <;> omega) rfl
    exact RS.cs go (by simp only [List.append_assoc, List.cons_append, List.nil_append, List.length_cons, esl_c, ety_c]) (by (try simp only [List.length_append, List.length_cons, List.length_nil, cg_len]) <;> omega) (by simp only [m2_a])
  · obtain ⟨o1, o2, o3, o4⟩ := ok_7.mp ho
    have s1 := sz_1 o3
    rw [ln_7] at hen1
    have hs1 : 1 + sz l + sz r ≤ 400 := hs0
    have hs2 : Ts.length + 2 * (1 + sz l + sz r) ≤ 1990 := hs
    have hn2 : pe.length + max (nD l) (nD r) ≤ 100 := hnd
    have hp2 : Ps.length + max (pD l) (pD r) ≤ 40 := hpd
    rw [cg_7, ln_7, cT_7, cF_7] at go
    rw [cr_7]
    have s2 := sz_1 o4
    refine RS.cs (hl (A) (((14 : Int32), (3 : Int64), nI a, (0 : Int32)) :: (cr t r (A.length + ln l + 1) ++ ((14 : Int32), (1 : Int64), nI b, (0 : Int32)) :: ((6 : Int32), (0 : Int64), (0 : Int32), (0 : Int32)) :: Z)) (A.length) (Ts) (pe) (Ps) _ o3 (by (try simp only [List.length_append, List.length_cons, List.length_nil, cg_len]) <;> omega) (by omega) (by omega) (by (try simp only [List.length_cons]) <;> omega) (by (try simp only [List.length_cons]) <;> omega) (by (try simp only [List.length_cons]) <;> omega) (hb) ?_) (by simp only [List.append_assoc, List.cons_append, List.nil_append, List.length_cons, esl_c, ety_c]) (by (try simp only [List.length_append, List.length_cons, List.length_nil, cg_len]) <;> omega) rfl
    refine RS.cs (r_wnt (A ++ cg t (rsV t) (rsF t D) l A.length Ts.length (esl t pe)) (cr t r (A.length + ln l + 1) ++ ((14 : Int32), (1 : Int64), nI b, (0 : Int32)) :: ((6 : Int32), (0 : Int64), (0 : Int32), (0 : Int32)) :: Z) (y := 3) (p := a) (v := 3) rfl (by decide) o1 (by (try simp only [List.length_append, List.length_cons, List.length_nil, cg_len]) <;> omega) hen ?_) (by simp only [List.append_assoc, List.cons_append, List.nil_append, List.length_cons, esl_c, ety_c]) (by (try simp only [List.length_append, List.length_cons, List.length_nil, cg_len]) <;> omega) rfl
    refine RS.cs (hr (A ++ (cg t (rsV t) (rsF t D) l A.length Ts.length (esl t pe) ++ [((14 : Int32), (3 : Int64), nI a, (0 : Int32))])) (((14 : Int32), (1 : Int64), nI b, (0 : Int32)) :: ((6 : Int32), (0 : Int64), (0 : Int32), (0 : Int32)) :: Z) (A.length + ln l + 1) (3 :: Ts) (pe) (Ps) _ o4 (by (try simp only [List.length_append, List.length_cons, List.length_nil, cg_len]) <;> omega) (by omega) (by omega) (by (try simp only [List.length_cons]) <;> omega) (by (try simp only [List.length_cons]) <;> omega) (by (try simp only [List.length_cons]) <;> omega) (hb.up) ?_) (by simp only [List.append_assoc, List.cons_append, List.nil_append, List.length_cons, esl_c, ety_c]) (by (try simp only [List.length_append, List.length_cons, List.length_nil, cg_len]) <;> omega) rfl
    refine RS.cs (r_wnt (A ++ (cg t (rsV t) (rsF t D) l A.length Ts.length (esl t pe) ++ ((14 : Int32), (3 : Int64), nI a, (0 : Int32)) :: cg t (rsV t) (rsF t D) r (A.length + ln l + 1) (Ts.length + 1) (esl t pe))) (((6 : Int32), (0 : Int64), (0 : Int32), (0 : Int32)) :: Z) (y := 1) (p := b) (v := 1) rfl (by decide) o2 (by (try simp only [List.length_append, List.length_cons, List.length_nil, cg_len]) <;> omega) hen ?_) (by simp only [List.append_assoc, List.cons_append, List.nil_append, List.length_cons, esl_c, ety_c]) (by (try simp only [List.length_append, List.length_cons, List.length_nil, cg_len]) <;> omega) rfl
    refine RS.cs (r_two (p := 0) (A ++ (cg t (rsV t) (rsF t D) l A.length Ts.length (esl t pe) ++ ((14 : Int32), (3 : Int64), nI a, (0 : Int32)) :: (cg t (rsV t) (rsF t D) r (A.length + ln l + 1) (Ts.length + 1) (esl t pe) ++ [((14 : Int32), (1 : Int64), nI b, (0 : Int32))]))) Z (k := 6) (Or.inl rfl) (o := 6) rfl (by (try simp only [List.length_append, List.length_cons, List.length_nil, cg_len]) <;> omega) hen ?_) (by simp only [List.append_assoc, List.cons_append, List.nil_append, List.length_cons, esl_c, ety_c]) (by (try simp only [List.length_append, List.length_cons, List.length_nil, cg_len]) <;> omega) rfl
    exact RS.cs go (by simp only [List.append_assoc, List.cons_append, List.nil_append, List.length_cons, esl_c, ety_c]) (by (try simp only [List.length_append, List.length_cons, List.length_nil, cg_len]) <;> omega) (by simp only [m2_a])
  · obtain ⟨o1, o2, o3⟩ := ok_8.mp ho
    have s1 := sz_1 o2
    rw [ln_8] at hen1
    have hs1 : sz l + sz r ≤ 400 := hs0
    have hs2 : Ts.length + 2 * (sz l + sz r) ≤ 1990 := hs
    have hn2 : pe.length + max (nD l) (1 + nD r) ≤ 100 := hnd
    have hp2 : Ps.length + max (pD l) (pD r) ≤ 40 := hpd
    rw [cg_8, ln_8, cT_8, cF_8] at go
    rw [cr_8]
    have s2 := sz_1 o3
    refine RS.cs (hl (A) (((12 : Int32), wv t a b, (0 : Int32), (1 : Int32)) :: (cr t r (A.length + ln l + 1) ++ ((13 : Int32), (1 : Int64), (0 : Int32), (0 : Int32)) :: Z)) (A.length) (Ts) (pe) (Ps) _ o2 (by (try simp only [List.length_append, List.length_cons, List.length_nil, cg_len]) <;> omega) (by omega) (by omega) (by (try simp only [List.length_cons]) <;> omega) (by (try simp only [List.length_cons]) <;> omega) (by (try simp only [List.length_cons]) <;> omega) (hb) ?_) (by simp only [List.append_assoc, List.cons_append, List.nil_append, List.length_cons, esl_c, ety_c]) (by (try simp only [List.length_append, List.length_cons, List.length_nil, cg_len]) <;> omega) rfl
    refine RS.cs (r_bnd (A ++ cg t (rsV t) (rsF t D) l A.length Ts.length (esl t pe)) (cr t r (A.length + ln l + 1) ++ ((13 : Int32), (1 : Int64), (0 : Int32), (0 : Int32)) :: Z) (k := 1) (s := Ts.length) (y := ckT t D l (ety t pe)) (x := 1) rfl rfl (by decide) o1 (by omega) (by (try simp only [List.length_append, List.length_cons, List.length_nil, cg_len]) <;> omega) hen ?_) (by simp only [List.append_assoc, List.cons_append, List.nil_append, List.length_cons, esl_c, ety_c]) (by (try simp only [List.length_append, List.length_cons, List.length_nil, cg_len]) <;> omega) rfl
    refine RS.cs (hr (A ++ (cg t (rsV t) (rsF t D) l A.length Ts.length (esl t pe) ++ [((12 : Int32), wv t a b, (0 : Int32), (1 : Int32))])) (((13 : Int32), (1 : Int64), (0 : Int32), (0 : Int32)) :: Z) (A.length + ln l + 1) (ckT t D l (ety t pe) :: Ts) (((a, b), Ts.length, ckT t D l (ety t pe)) :: pe) (Ps) _ o3 (by (try simp only [List.length_append, List.length_cons, List.length_nil, cg_len]) <;> omega) (by omega) (by omega) (by (try simp only [List.length_cons]) <;> omega) (by (try simp only [List.length_cons]) <;> omega) (by (try simp only [List.length_cons]) <;> omega) (hb.up.cn (rev_at _ _)) ?_) (by simp only [List.append_assoc, List.cons_append, List.nil_append, List.length_cons, esl_c, ety_c]) (by (try simp only [List.length_append, List.length_cons, List.length_nil, cg_len]) <;> omega) rfl
    refine RS.cs (r_unb (A ++ (cg t (rsV t) (rsF t D) l A.length Ts.length (esl t pe) ++ ((12 : Int32), wv t a b, (0 : Int32), (1 : Int32)) :: cg t (rsV t) (rsF t D) r (A.length + ln l + 1) (Ts.length + 1) ((nmT t a b, Ts.length) :: esl t pe))) Z (k := 1) (v := 1) rfl (L := [ckT t D l (ety t pe)]) (M := [((a, b), Ts.length, ckT t D l (ety t pe))]) rfl rfl (by (try simp only [List.length_append, List.length_cons, List.length_nil, cg_len]) <;> omega) hen ?_) (by simp only [List.append_assoc, List.cons_append, List.nil_append, List.length_cons, esl_c, ety_c]) (by (try simp only [List.length_append, List.length_cons, List.length_nil, cg_len]) <;> omega) rfl
    exact RS.cs go (by simp only [List.append_assoc, List.cons_append, List.nil_append, List.length_cons, esl_c, ety_c]) (by (try simp only [List.length_append, List.length_cons, List.length_nil, cg_len]) <;> omega) (by simp only [m2_a, ety_c])
  · obtain ⟨o1, o2, o3, o4⟩ := ok_9.mp ho
    have s1 := sz_1 o3
    rw [ln_9] at hen1
    have hs1 : sz l + sz r ≤ 400 := hs0
    have hs2 : Ts.length + 2 * (sz l + sz r) ≤ 1990 := hs
    have hn2 : pe.length + max (nD l) (nD r) ≤ 100 := hnd
    have hp2 : Ps.length + max (pD l) (pD r) ≤ 40 := hpd
    rw [cg_9, ln_9, cT_9, cF_9] at go
    rw [cr_9]
    refine RS.cs (hl (A) (((14 : Int32), (1 : Int64), nI a, (0 : Int32)) :: ((8 : Int32), lN (A.length + ln l + lnL r + 3), (0 : Int32), (0 : Int32)) :: (cr t r (A.length + ln l + 2) ++ ((16 : Int32), (0 : Int64), nI b, (0 : Int32)) :: Z)) (A.length) (Ts) (pe) (Ps) _ o3 (by (try simp only [List.length_append, List.length_cons, List.length_nil, cg_len]) <;> omega) (by omega) (by omega) (by (try simp only [List.length_cons]) <;> omega) (by (try simp only [List.length_cons]) <;> omega) (by (try simp only [List.length_cons]) <;> omega) (hb) ?_) (by simp only [List.append_assoc, List.cons_append, List.nil_append, List.length_cons, esl_c, ety_c]) (by (try simp only [List.length_append, List.length_cons, List.length_nil, cg_len]) <;> omega) rfl
    refine RS.cs (r_wnt (A ++ cg t (rsV t) (rsF t D) l A.length Ts.length (esl t pe)) (((8 : Int32), lN (A.length + ln l + lnL r + 3), (0 : Int32), (0 : Int32)) :: (cr t r (A.length + ln l + 2) ++ ((16 : Int32), (0 : Int64), nI b, (0 : Int32)) :: Z)) (y := 1) (p := a) (v := 1) rfl (by decide) o1 (by (try simp only [List.length_append, List.length_cons, List.length_nil, cg_len]) <;> omega) hen ?_) (by simp only [List.append_assoc, List.cons_append, List.nil_append, List.length_cons, esl_c, ety_c]) (by (try simp only [List.length_append, List.length_cons, List.length_nil, cg_len]) <;> omega) rfl
    refine RS.cs (r_if (p := 0) (A ++ (cg t (rsV t) (rsF t D) l A.length Ts.length (esl t pe) ++ [((14 : Int32), (1 : Int64), nI a, (0 : Int32))])) (cr t r (A.length + ln l + 2) ++ ((16 : Int32), (0 : Int64), nI b, (0 : Int32)) :: Z) (k := 8) (Or.inl rfl) (v := lN (A.length + ln l + lnL r + 3)) (o := 8) rfl (by (try simp only [List.length_append, List.length_cons, List.length_nil, cg_len]) <;> omega) hen ?_) (by simp only [List.append_assoc, List.cons_append, List.nil_append, List.length_cons, esl_c, ety_c]) (by (try simp only [List.length_append, List.length_cons, List.length_nil, cg_len]) <;> omega) rfl
    refine RS.cs (hr2 (A ++ (cg t (rsV t) (rsF t D) l A.length Ts.length (esl t pe) ++ [((14 : Int32), (1 : Int64), nI a, (0 : Int32)), ((8 : Int32), lN (A.length + ln l + lnL r + 3), (0 : Int32), (0 : Int32))])) (((16 : Int32), (0 : Int64), nI b, (0 : Int32)) :: Z) (A.length + ln l + 2) (Ts) (pe) (Ps) _ o4 (by (try simp only [List.length_append, List.length_cons, List.length_nil, cg_len]) <;> omega) (by omega) (by omega) (by (try simp only [List.length_cons]) <;> omega) (by (try simp only [List.length_cons]) <;> omega) (by (try simp only [List.length_cons]) <;> omega) (hb) ?_) (by simp only [List.append_assoc, List.cons_append, List.nil_append, List.length_cons, esl_c, ety_c]) (by (try simp only [List.length_append, List.length_cons, List.length_nil, cg_len]) <;> omega) rfl
    refine RS.cs (r_join (A ++ (cg t (rsV t) (rsF t D) l A.length Ts.length (esl t pe) ++ ((14 : Int32), (1 : Int64), nI a, (0 : Int32)) :: ((8 : Int32), lN (A.length + ln l + lnL r + 3), (0 : Int32), (0 : Int32)) :: (cg t (rsV t) (rsF t D) r (A.length + ln l + 2) (Ts.length) (esl t pe)))) Z o2 (by (try simp only [List.length_append, List.length_cons, List.length_nil, cg_len]) <;> omega) hen ?_) (by simp only [List.append_assoc, List.cons_append, List.nil_append, List.length_cons, esl_c, ety_c]) (by (try simp only [List.length_append, List.length_cons, List.length_nil, cg_len]) <;> omega) rfl
    exact RS.cs go (by simp only [List.append_assoc, List.cons_append, List.nil_append, List.length_cons, esl_c, ety_c]) (by (try simp only [List.length_append, List.length_cons, List.length_nil, cg_len]) <;> omega) (by simp only [m2_a])
  · obtain ⟨o1, o2, o3, o4⟩ := ok_10.mp ho
    have s1 := sz_1 o3
    rw [ln_10] at hen1
    have hs1 : sz l + sz r ≤ 400 := hs0
    have hs2 : Ts.length + 2 * (sz l + sz r) ≤ 1990 := hs
    have hn2 : pe.length + max (nD l) (nD r) ≤ 100 := hnd
    have hp2 : Ps.length + max (pD l) (pD r) ≤ 40 := hpd
    rw [cg_10, ln_10, cT_10, cF_10] at go
    rw [cr_10]
    refine RS.cs (hl (A) (((14 : Int32), (2 : Int64), nI a, (0 : Int32)) :: ((10 : Int32), lN (A.length + ln l + lnL r + 3), (0 : Int32), (0 : Int32)) :: (cr t r (A.length + ln l + 2) ++ ((13 : Int32), (2 : Int64), (0 : Int32), (0 : Int32)) :: ((16 : Int32), (0 : Int64), nI b, (0 : Int32)) :: Z)) (A.length) (Ts) (pe) (Ps) _ o3 (by (try simp only [List.length_append, List.length_cons, List.length_nil, cg_len]) <;> omega) (by omega) (by omega) (by (try simp only [List.length_cons]) <;> omega) (by (try simp only [List.length_cons]) <;> omega) (by (try simp only [List.length_cons]) <;> omega) (hb) ?_) (by simp only [List.append_assoc, List.cons_append, List.nil_append, List.length_cons, esl_c, ety_c]) (by (try simp only [List.length_append, List.length_cons, List.length_nil, cg_len]) <;> omega) rfl
    refine RS.cs (r_wnt (A ++ cg t (rsV t) (rsF t D) l A.length Ts.length (esl t pe)) (((10 : Int32), lN (A.length + ln l + lnL r + 3), (0 : Int32), (0 : Int32)) :: (cr t r (A.length + ln l + 2) ++ ((13 : Int32), (2 : Int64), (0 : Int32), (0 : Int32)) :: ((16 : Int32), (0 : Int64), nI b, (0 : Int32)) :: Z)) (y := 2) (p := a) (v := 2) rfl (by decide) o1 (by (try simp only [List.length_append, List.length_cons, List.length_nil, cg_len]) <;> omega) hen ?_) (by simp only [List.append_assoc, List.cons_append, List.nil_append, List.length_cons, esl_c, ety_c]) (by (try simp only [List.length_append, List.length_cons, List.length_nil, cg_len]) <;> omega) rfl
    refine RS.cs (r_if (p := 0) (A ++ (cg t (rsV t) (rsF t D) l A.length Ts.length (esl t pe) ++ [((14 : Int32), (2 : Int64), nI a, (0 : Int32))])) (cr t r (A.length + ln l + 2) ++ ((13 : Int32), (2 : Int64), (0 : Int32), (0 : Int32)) :: ((16 : Int32), (0 : Int64), nI b, (0 : Int32)) :: Z) (k := 10) (Or.inr rfl) (v := lN (A.length + ln l + lnL r + 3)) (o := 10) rfl (by (try simp only [List.length_append, List.length_cons, List.length_nil, cg_len]) <;> omega) hen ?_) (by simp only [List.append_assoc, List.cons_append, List.nil_append, List.length_cons, esl_c, ety_c]) (by (try simp only [List.length_append, List.length_cons, List.length_nil, cg_len]) <;> omega) rfl
    refine RS.cs (hr3 (A ++ (cg t (rsV t) (rsF t D) l A.length Ts.length (esl t pe) ++ [((14 : Int32), (2 : Int64), nI a, (0 : Int32)), ((10 : Int32), lN (A.length + ln l + lnL r + 3), (0 : Int32), (0 : Int32))])) (((13 : Int32), (2 : Int64), (0 : Int32), (0 : Int32)) :: ((16 : Int32), (0 : Int64), nI b, (0 : Int32)) :: Z) (A.length + ln l + 2) (Ts) (pe) (Ps) _ o4 (by (try simp only [List.length_append, List.length_cons, List.length_nil, cg_len]) <;> omega) (by omega) (by omega) (by (try simp only [List.length_cons]) <;> omega) (by (try simp only [List.length_cons]) <;> omega) (by (try simp only [List.length_cons]) <;> omega) (hb) (fun M hM => ?_)) (by simp only [List.append_assoc, List.cons_append, List.nil_append, List.length_cons, esl_c, ety_c]) (by (try simp only [List.length_append, List.length_cons, List.length_nil, cg_len]) <;> omega) rfl
    refine RS.cs (r_unb (A ++ (cg t (rsV t) (rsF t D) l A.length Ts.length (esl t pe) ++ ((14 : Int32), (2 : Int64), nI a, (0 : Int32)) :: ((10 : Int32), lN (A.length + ln l + lnL r + 3), (0 : Int32), (0 : Int32)) :: cg t (rsV t) (rsF t D) r (A.length + ln l + 2) (Ts.length) (esl t pe))) (((16 : Int32), (0 : Int64), nI b, (0 : Int32)) :: Z) (k := 2) (v := 2) rfl (L := [2, 1]) (M := M) rfl hM (by (try simp only [List.length_append, List.length_cons, List.length_nil, cg_len]) <;> omega) hen ?_) (by simp only [List.append_assoc, List.cons_append, List.nil_append, List.length_cons, esl_c, ety_c]) (by (try simp only [List.length_append, List.length_cons, List.length_nil, cg_len]) <;> omega) rfl
    refine RS.cs (r_join (A ++ (cg t (rsV t) (rsF t D) l A.length Ts.length (esl t pe) ++ ((14 : Int32), (2 : Int64), nI a, (0 : Int32)) :: ((10 : Int32), lN (A.length + ln l + lnL r + 3), (0 : Int32), (0 : Int32)) :: (cg t (rsV t) (rsF t D) r (A.length + ln l + 2) (Ts.length) (esl t pe) ++ [((13 : Int32), (2 : Int64), (0 : Int32), (0 : Int32))]))) Z o2 (by (try simp only [List.length_append, List.length_cons, List.length_nil, cg_len]) <;> omega) hen ?_) (by simp only [List.append_assoc, List.cons_append, List.nil_append, List.length_cons, esl_c, ety_c]) (by (try simp only [List.length_append, List.length_cons, List.length_nil, cg_len]) <;> omega) rfl
    exact RS.cs go (by simp only [List.append_assoc, List.cons_append, List.nil_append, List.length_cons, esl_c, ety_c]) (by (try simp only [List.length_append, List.length_cons, List.length_nil, cg_len]) <;> omega) (by simp only [m2_a])
  · obtain ⟨o1, o2, o3, o4, o5⟩ := ok_11.mp ho
    have s1 := sz_1 o4
    rw [ln_11] at hen1
    have hs1 : sz l + sz r ≤ 400 := hs0
    have hs2 : Ts.length + 2 * (sz l + sz r) ≤ 1990 := hs
    have hn2 : pe.length + max (nD l) (nD r) ≤ 100 := hnd
    have hp2 : Ps.length + max (pD l) (pD r) ≤ 40 := hpd
    rw [cg_11, ln_11, cT_11, cF_11] at go
    rw [cr_11]
    have s2 := sz_1 o5
    have ha : 16 < a ∧ a < 1000 ∧ a ≠ 17 := by
      simp only [List.mem_cons, List.not_mem_nil, or_false] at o1
      omega
    refine RS.cs (hl (A) (((14 : Int32), (1 : Int64), nI b, (0 : Int32)) :: (cr t r (A.length + ln l + 1) ++ ((14 : Int32), (1 : Int64), nI c, (0 : Int32)) :: (nI a, (0 : Int64), (0 : Int32), (0 : Int32)) :: Z)) (A.length) (Ts) (pe) (Ps) _ o4 (by (try simp only [List.length_append, List.length_cons, List.length_nil, cg_len]) <;> omega) (by omega) (by omega) (by (try simp only [List.length_cons]) <;> omega) (by (try simp only [List.length_cons]) <;> omega) (by (try simp only [List.length_cons]) <;> omega) (hb) ?_) (by simp only [List.append_assoc, List.cons_append, List.nil_append, List.length_cons, esl_c, ety_c]) (by (try simp only [List.length_append, List.length_cons, List.length_nil, cg_len]) <;> omega) rfl
    refine RS.cs (r_wnt (A ++ cg t (rsV t) (rsF t D) l A.length Ts.length (esl t pe)) (cr t r (A.length + ln l + 1) ++ ((14 : Int32), (1 : Int64), nI c, (0 : Int32)) :: (nI a, (0 : Int64), (0 : Int32), (0 : Int32)) :: Z) (y := 1) (p := b) (v := 1) rfl (by decide) o2 (by (try simp only [List.length_append, List.length_cons, List.length_nil, cg_len]) <;> omega) hen ?_) (by simp only [List.append_assoc, List.cons_append, List.nil_append, List.length_cons, esl_c, ety_c]) (by (try simp only [List.length_append, List.length_cons, List.length_nil, cg_len]) <;> omega) rfl
    refine RS.cs (hr (A ++ (cg t (rsV t) (rsF t D) l A.length Ts.length (esl t pe) ++ [((14 : Int32), (1 : Int64), nI b, (0 : Int32))])) (((14 : Int32), (1 : Int64), nI c, (0 : Int32)) :: (nI a, (0 : Int64), (0 : Int32), (0 : Int32)) :: Z) (A.length + ln l + 1) (1 :: Ts) (pe) (Ps) _ o5 (by (try simp only [List.length_append, List.length_cons, List.length_nil, cg_len]) <;> omega) (by omega) (by omega) (by (try simp only [List.length_cons]) <;> omega) (by (try simp only [List.length_cons]) <;> omega) (by (try simp only [List.length_cons]) <;> omega) (hb.up) ?_) (by simp only [List.append_assoc, List.cons_append, List.nil_append, List.length_cons, esl_c, ety_c]) (by (try simp only [List.length_append, List.length_cons, List.length_nil, cg_len]) <;> omega) rfl
    refine RS.cs (r_wnt (A ++ (cg t (rsV t) (rsF t D) l A.length Ts.length (esl t pe) ++ ((14 : Int32), (1 : Int64), nI b, (0 : Int32)) :: cg t (rsV t) (rsF t D) r (A.length + ln l + 1) (Ts.length + 1) (esl t pe))) ((nI a, (0 : Int64), (0 : Int32), (0 : Int32)) :: Z) (y := 1) (p := c) (v := 1) rfl (by decide) o3 (by (try simp only [List.length_append, List.length_cons, List.length_nil, cg_len]) <;> omega) hen ?_) (by simp only [List.append_assoc, List.cons_append, List.nil_append, List.length_cons, esl_c, ety_c]) (by (try simp only [List.length_append, List.length_cons, List.length_nil, cg_len]) <;> omega) rfl
    refine RS.cs (r_two (p := 0) (A ++ (cg t (rsV t) (rsF t D) l A.length Ts.length (esl t pe) ++ ((14 : Int32), (1 : Int64), nI b, (0 : Int32)) :: (cg t (rsV t) (rsF t D) r (A.length + ln l + 1) (Ts.length + 1) (esl t pe) ++ [((14 : Int32), (1 : Int64), nI c, (0 : Int32))]))) Z (k := a) (Or.inr ha) (o := nI a) rfl (by (try simp only [List.length_append, List.length_cons, List.length_nil, cg_len]) <;> omega) hen ?_) (by simp only [List.append_assoc, List.cons_append, List.nil_append, List.length_cons, esl_c, ety_c]) (by (try simp only [List.length_append, List.length_cons, List.length_nil, cg_len]) <;> omega) rfl
    exact RS.cs go (by simp only [List.append_assoc, List.cons_append, List.nil_append, List.length_cons, esl_c, ety_c]) (by (try simp only [List.length_append, List.length_cons, List.length_nil, cg_len]) <;> omega) (by simp only [m2_a])
  · obtain ⟨o1, o2, o3, o4, o5, o6⟩ := ok_12.mp ho
    have s1 := sz_1 o4
    rw [ln_12] at hen1
    have hs1 : sz l + sz r ≤ 400 := hs0
    have hs2 : Ts.length + 2 * (sz l + sz r) ≤ 1990 := hs
    have hn2 : pe.length + max (nD l) (nD r) ≤ 100 := hnd
    have hp2 : Ps.length + max (pD l) (pD r) ≤ 40 := hpd
    rw [cg_12, ln_12, cT_12, cF_12] at go
    rw [cr_12]
    have s2 := sz_1 o5
    have ha : 16 < a ∧ a < 1000 ∧ a ≠ 17 := by
      simp only [List.mem_cons, List.not_mem_nil, or_false] at o1
      omega
    refine RS.cs (hl (A) (cr t r (A.length + ln l) ++ ((14 : Int32), (1 : Int64), nI c, (0 : Int32)) :: (nI a, (0 : Int64), (0 : Int32), (0 : Int32)) :: Z) (A.length) (Ts) (pe) (Ps) _ o4 (by (try simp only [List.length_append, List.length_cons, List.length_nil, cg_len]) <;> omega) (by omega) (by omega) (by (try simp only [List.length_cons]) <;> omega) (by (try simp only [List.length_cons]) <;> omega) (by (try simp only [List.length_cons]) <;> omega) (hb) ?_) (by simp only [List.append_assoc, List.cons_append, List.nil_append, List.length_cons, esl_c, ety_c]) (by (try simp only [List.length_append, List.length_cons, List.length_nil, cg_len]) <;> omega) rfl
    refine RS.cs (hr (A ++ cg t (rsV t) (rsF t D) l A.length Ts.length (esl t pe)) (((14 : Int32), (1 : Int64), nI c, (0 : Int32)) :: (nI a, (0 : Int64), (0 : Int32), (0 : Int32)) :: Z) (A.length + ln l) (ckT t D l (ety t pe) :: Ts) (pe) (Ps) _ o5 (by (try simp only [List.length_append, List.length_cons, List.length_nil, cg_len]) <;> omega) (by omega) (by omega) (by (try simp only [List.length_cons]) <;> omega) (by (try simp only [List.length_cons]) <;> omega) (by (try simp only [List.length_cons]) <;> omega) (hb.up) ?_) (by simp only [List.append_assoc, List.cons_append, List.nil_append, List.length_cons, esl_c, ety_c]) (by (try simp only [List.length_append, List.length_cons, List.length_nil, cg_len]) <;> omega) rfl
    refine RS.cs (r_wnt (A ++ (cg t (rsV t) (rsF t D) l A.length Ts.length (esl t pe) ++ cg t (rsV t) (rsF t D) r (A.length + ln l) (Ts.length + 1) (esl t pe))) ((nI a, (0 : Int64), (0 : Int32), (0 : Int32)) :: Z) (y := 1) (p := c) (v := 1) rfl (by decide) o3 (by (try simp only [List.length_append, List.length_cons, List.length_nil, cg_len]) <;> omega) hen ?_) (by simp only [List.append_assoc, List.cons_append, List.nil_append, List.length_cons, esl_c, ety_c]) (by (try simp only [List.length_append, List.length_cons, List.length_nil, cg_len]) <;> omega) rfl
    refine RS.cs (r_two (p := 0) (A ++ (cg t (rsV t) (rsF t D) l A.length Ts.length (esl t pe) ++ (cg t (rsV t) (rsF t D) r (A.length + ln l) (Ts.length + 1) (esl t pe) ++ [((14 : Int32), (1 : Int64), nI c, (0 : Int32))]))) Z (k := a) (Or.inr ha) (o := nI a) rfl (by (try simp only [List.length_append, List.length_cons, List.length_nil, cg_len]) <;> omega) hen ?_) (by simp only [List.append_assoc, List.cons_append, List.nil_append, List.length_cons, esl_c, ety_c]) (by (try simp only [List.length_append, List.length_cons, List.length_nil, cg_len]) <;> omega) rfl
    have e0 : exQ (ckT t D l (ety t pe)) 1 b = none := by rw [isC_T o6]; exact if_neg fun q => q.2.2 rfl
    exact RS.cs go (by simp only [List.append_assoc, List.cons_append, List.nil_append, List.length_cons, esl_c, ety_c]) (by (try simp only [List.length_append, List.length_cons, List.length_nil, cg_len]) <;> omega) (by simp only [e0, m2_n, m2_a])
set_option maxHeartbeats 8000000 in
theorem x_chk1 (hn : n ≤ 4000) (hen : en ≤ 3000) {kd a b c d0 : Nat} {l r : Tr} (hl : KX0 t n d en D σ0 v1 Q l) (hr : KX1 t n d en D σ0 v1 Q r) : KX1 t n d en D σ0 v1 Q (nd kd a b c d0 l r) := by
  intro A Z p Ts pe Ps w a0 z0 k0 ho hnm hs0 hp hen1 hs hnd hpd hb go
  subst hp
  obtain ⟨rfl, rfl, rfl, o4, rfl, o6, o7⟩ := ok_21.mp ho
  have s1 := sz_1 o6
  rw [ln_21] at hen1
  have hs1 : d0 + (sz l + sz r) ≤ 400 := hs0
  have hs2 : Ts.length + 2 * (sz l + sz r) ≤ 1990 := hs
  have hn2 : pe.length + max (nD l) (nD r) ≤ 100 := hnd
  have hp2 : Ps.length + max (pD l) (pD r) ≤ 40 := hpd
  rw [cg_21, ln_21, cF_21] at go
  rw [cr_21]
  refine RS.cs (hl (A) (((15 : Int32), wv t a b, nI c, nI d0) :: (cr t r (A.length + ln l + 1) ++ Z)) (A.length) (Ts) (pe) (Ps) _ o6 (by (try simp only [List.length_append, List.length_cons, List.length_nil, cg_len]) <;> omega) (by omega) (by omega) (by (try simp only [List.length_cons]) <;> omega) (by (try simp only [List.length_cons]) <;> omega) (by (try simp only [List.length_cons]) <;> omega) (hb) ?_) (by simp only [List.append_assoc, List.cons_append, List.nil_append, List.length_cons, esl_c, ety_c]) (by (try simp only [List.length_append, List.length_cons, List.length_nil, cg_len]) <;> omega) rfl
  refine RS.cs (r_pass (k := d0) (A ++ cg t (rsV t) (rsF t D) l A.length Ts.length (esl t pe)) (cr t r (A.length + ln l + 1) ++ Z) hnm o4 (by omega) (by (try simp only [List.length_append, List.length_cons, List.length_nil, cg_len]) <;> omega) hen (fun y => ?_)) (by simp only [List.append_assoc, List.cons_append, List.nil_append, List.length_cons, esl_c, ety_c]) (by (try simp only [List.length_append, List.length_cons, List.length_nil, cg_len]) <;> omega) rfl
  refine RS.cs (hr (A ++ (cg t (rsV t) (rsF t D) l A.length Ts.length (esl t pe) ++ [((15 : Int32), wv t a b, nI c, nI d0)])) Z (A.length + ln l + 1) (y :: Ts) pe Ps _ a b (d0 + 1) o7 hnm (by omega) (by (try simp only [List.length_append, List.length_cons, List.length_nil, cg_len]) <;> omega) (by omega) (by (try simp only [List.length_cons]) <;> omega) (by omega) (by omega) hb.up (fun L hL => ?_)) (by simp only [List.append_assoc, List.cons_append, List.nil_append, List.length_cons, esl_c, ety_c]) (by (try simp only [List.length_append, List.length_cons, List.length_nil, cg_len]) <;> omega) rfl
  exact RS.ct (RS.cs (go (L ++ [y]) (by rw [List.length_append, hL]; exact Nat.add_comm _ _)) (by simp only [List.append_assoc, List.cons_append, List.nil_append, List.length_cons, esl_c, ety_c]) (by (try simp only [List.length_append, List.length_cons, List.length_nil, cg_len]) <;> omega) (by simp only [m2_a])) (by simp only [List.append_assoc, List.cons_append, List.nil_append])
set_option maxHeartbeats 8000000 in
theorem x_chk2 (hn : n ≤ 4000) (hen : en ≤ 3000) {kd a b c d0 : Nat} {l r : Tr} (hl : KX0 t n d en D σ0 v1 Q l) (hr : KX0 t n d en D σ0 v1 Q r) : KX2 t n d en D σ0 v1 Q (nd kd a b c d0 l r) := by
  intro A Z p Ts pe Ps w ho hp hen1 hs0 hs hnd hpd hb go
  subst hp
  obtain ⟨rfl, o3, o4⟩ := ok_20.mp ho
  have s1 := sz_1 o3
  have s2 := sz_1 o4
  rw [ln_20] at hen1
  have hs1 : sz l + sz r ≤ 400 := hs0
  have hs2 : Ts.length + 2 * (sz l + sz r) ≤ 1990 := hs
  have hn2 : pe.length + max (nD l) (nD r) ≤ 100 := hnd
  have hp2 : Ps.length + max (pD l) (1 + pD r) ≤ 40 := hpd
  rw [cg_20, ln_20, cU_20, cT_20, cF_20] at go
  rw [cr_20]
  refine RS.cs (hl (A) (((9 : Int32), lN (A.length + ln l + ln r + 2), (0 : Int32), (0 : Int32)) :: (cr t r (A.length + ln l + 1) ++ Z)) (A.length) (Ts) (pe) (Ps) _ o3 (by (try simp only [List.length_append, List.length_cons, List.length_nil, cg_len]) <;> omega) (by omega) (by omega) (by (try simp only [List.length_cons]) <;> omega) (by (try simp only [List.length_cons]) <;> omega) (by (try simp only [List.length_cons]) <;> omega) (hb) ?_) (by simp only [List.append_assoc, List.cons_append, List.nil_append, List.length_cons, esl_c, ety_c]) (by (try simp only [List.length_append, List.length_cons, List.length_nil, cg_len]) <;> omega) rfl
  refine RS.cs (r_skip (p := 0) (v := lN (A.length + ln l + ln r + 2)) (A ++ cg t (rsV t) (rsF t D) l A.length Ts.length (esl t pe)) (cr t r (A.length + ln l + 1) ++ Z) (by omega) (by (try simp only [List.length_append, List.length_cons, List.length_nil, cg_len]) <;> omega) hen ?_) (by simp only [List.append_assoc, List.cons_append, List.nil_append, List.length_cons, esl_c, ety_c]) (by (try simp only [List.length_append, List.length_cons, List.length_nil, cg_len]) <;> omega) rfl
  refine RS.cs (hr (A ++ (cg t (rsV t) (rsF t D) l A.length Ts.length (esl t pe) ++ [((9 : Int32), lN (A.length + ln l + ln r + 2), (0 : Int32), (0 : Int32))])) (Z) (A.length + ln l + 1) (Ts) (pe) (ckT t D l (ety t pe) :: Ps) _ o4 (by (try simp only [List.length_append, List.length_cons, List.length_nil, cg_len]) <;> omega) (by omega) (by omega) (by (try simp only [List.length_cons]) <;> omega) (by (try simp only [List.length_cons]) <;> omega) (by (try simp only [List.length_cons]) <;> omega) (hb) ?_) (by simp only [List.append_assoc, List.cons_append, List.nil_append, List.length_cons, esl_c, ety_c]) (by (try simp only [List.length_append, List.length_cons, List.length_nil, cg_len]) <;> omega) rfl
  exact RS.cs go (by simp only [List.append_assoc, List.cons_append, List.nil_append, List.length_cons, esl_c, ety_c]) (by (try simp only [List.length_append, List.length_cons, List.length_nil, cg_len]) <;> omega) (by simp only [m2_a])
set_option maxHeartbeats 8000000 in
theorem x_chk3 (hn : n ≤ 4000) (hen : en ≤ 3000) {kd a b c d0 : Nat} {l r : Tr} (hl : KX0 t n d en D σ0 v1 Q l) (hr : KX0 t n d en D σ0 v1 Q r) : KX3 t n d en D σ0 v1 Q (nd kd a b c d0 l r) := by
  intro A Z p Ts pe Ps w ho hp hen1 hs0 hs hnd hpd hb go
  subst hp
  obtain ⟨rfl, o1, o2, o3, o4⟩ := ok_22.mp ho
  have s1 := sz_1 o3
  have s2 := sz_1 o4
  rw [ln_22] at hen1
  have hs1 : sz l + sz r ≤ 400 := hs0
  have hs2 : Ts.length + 2 + 2 * (sz l + sz r) ≤ 1990 := hs
  have hn2 : pe.length + max (nD l) (2 + nD r) ≤ 100 := hnd
  have hp2 : Ps.length + max (pD l) (1 + pD r) ≤ 40 := hpd
  rw [cg_22, ln_22, cU_22, cT_22, cF_22] at go
  rw [cr_22]
  refine RS.cs (hl (A) (((9 : Int32), lN (A.length + ln l + ln r + 6), (0 : Int32), (0 : Int32)) :: ((11 : Int32), (0 : Int64), (0 : Int32), (0 : Int32)) :: ((12 : Int32), wv t a b, (0 : Int32), (2 : Int32)) :: ((12 : Int32), wv t c d0, (0 : Int32), (1 : Int32)) :: (cr t r (A.length + ln l + 4) ++ Z)) (A.length) (Ts) (pe) (Ps) _ o3 (by (try simp only [List.length_append, List.length_cons, List.length_nil, cg_len]) <;> omega) (by omega) (by omega) (by (try simp only [List.length_cons]) <;> omega) (by (try simp only [List.length_cons]) <;> omega) (by (try simp only [List.length_cons]) <;> omega) (hb) ?_) (by simp only [List.append_assoc, List.cons_append, List.nil_append, List.length_cons, esl_c, ety_c]) (by (try simp only [List.length_append, List.length_cons, List.length_nil, cg_len]) <;> omega) rfl
  refine RS.cs (r_skip (p := 0) (v := lN (A.length + ln l + ln r + 6)) (A ++ cg t (rsV t) (rsF t D) l A.length Ts.length (esl t pe)) (((11 : Int32), (0 : Int64), (0 : Int32), (0 : Int32)) :: ((12 : Int32), wv t a b, (0 : Int32), (2 : Int32)) :: ((12 : Int32), wv t c d0, (0 : Int32), (1 : Int32)) :: (cr t r (A.length + ln l + 4) ++ Z)) (by omega) (by (try simp only [List.length_append, List.length_cons, List.length_nil, cg_len]) <;> omega) hen ?_) (by simp only [List.append_assoc, List.cons_append, List.nil_append, List.length_cons, esl_c, ety_c]) (by (try simp only [List.length_append, List.length_cons, List.length_nil, cg_len]) <;> omega) rfl
  refine RS.cs (r_part (p := 0) (A ++ (cg t (rsV t) (rsF t D) l A.length Ts.length (esl t pe) ++ [((9 : Int32), lN (A.length + ln l + ln r + 6), (0 : Int32), (0 : Int32))])) (((12 : Int32), wv t a b, (0 : Int32), (2 : Int32)) :: ((12 : Int32), wv t c d0, (0 : Int32), (1 : Int32)) :: (cr t r (A.length + ln l + 4) ++ Z)) (by omega) (by (try simp only [List.length_append, List.length_cons, List.length_nil, cg_len]) <;> omega) hen ?_) (by simp only [List.append_assoc, List.cons_append, List.nil_append, List.length_cons, esl_c, ety_c]) (by (try simp only [List.length_append, List.length_cons, List.length_nil, cg_len]) <;> omega) rfl
  refine RS.cs (r_bnd (A ++ (cg t (rsV t) (rsF t D) l A.length Ts.length (esl t pe) ++ [((9 : Int32), lN (A.length + ln l + ln r + 6), (0 : Int32), (0 : Int32)), ((11 : Int32), (0 : Int64), (0 : Int32), (0 : Int32))])) (((12 : Int32), wv t c d0, (0 : Int32), (1 : Int32)) :: (cr t r (A.length + ln l + 4) ++ Z)) (k := 2) (s := Ts.length) (y := 1) (x := 2) rfl rfl (by decide) o1 (by omega) (by (try simp only [List.length_append, List.length_cons, List.length_nil, cg_len]) <;> omega) hen ?_) (by simp only [List.append_assoc, List.cons_append, List.nil_append, List.length_cons, esl_c, ety_c]) (by (try simp only [List.length_append, List.length_cons, List.length_nil, cg_len]) <;> omega) rfl
  refine RS.cs (r_bnd (A ++ (cg t (rsV t) (rsF t D) l A.length Ts.length (esl t pe) ++ [((9 : Int32), lN (A.length + ln l + ln r + 6), (0 : Int32), (0 : Int32)), ((11 : Int32), (0 : Int64), (0 : Int32), (0 : Int32)), ((12 : Int32), wv t a b, (0 : Int32), (2 : Int32))])) ((cr t r (A.length + ln l + 4) ++ Z)) (k := 1) (s := Ts.length + 1) (y := 2) (x := 1) rfl rfl (by decide) o2 (by (try simp only [List.length_cons]) <;> omega) (by (try simp only [List.length_append, List.length_cons, List.length_nil, cg_len]) <;> omega) hen ?_) (by simp only [List.append_assoc, List.cons_append, List.nil_append, List.length_cons, esl_c, ety_c]) (by (try simp only [List.length_append, List.length_cons, List.length_nil, cg_len]) <;> omega) rfl
  refine RS.cs (hr (A ++ (cg t (rsV t) (rsF t D) l A.length Ts.length (esl t pe) ++ [((9 : Int32), lN (A.length + ln l + ln r + 6), (0 : Int32), (0 : Int32)), ((11 : Int32), (0 : Int64), (0 : Int32), (0 : Int32)), ((12 : Int32), wv t a b, (0 : Int32), (2 : Int32)), ((12 : Int32), wv t c d0, (0 : Int32), (1 : Int32))])) (Z) (A.length + ln l + 4) (2 :: 1 :: Ts) (((c, d0), Ts.length + 1, 2) :: ((a, b), Ts.length, 1) :: pe) (ckT t D l (ety t pe) :: Ps) _ o4 (by (try simp only [List.length_append, List.length_cons, List.length_nil, cg_len]) <;> omega) (by omega) (by omega) (by (try simp only [List.length_cons]) <;> omega) (by (try simp only [List.length_cons]) <;> omega) (by (try simp only [List.length_cons]) <;> omega) ((hb.up.up.cn (rev_in (M := [2]) (rev_at 1 Ts))).cn (rev_at 2 (1 :: Ts))) ?_) (by simp only [List.append_assoc, List.cons_append, List.nil_append, List.length_cons, esl_c, ety_c]) (by (try simp only [List.length_append, List.length_cons, List.length_nil, cg_len]) <;> omega) rfl
  exact RS.cs (go [((c, d0), Ts.length + 1, 2), ((a, b), Ts.length, 1)] rfl) (by simp only [List.append_assoc, List.cons_append, List.nil_append, List.length_cons, esl_c, ety_c]) (by (try simp only [List.length_append, List.length_cons, List.length_nil, cg_len]) <;> omega) (by simp only [m2_a, ety_c])
/-- each E -/
theorem x_chk (hn : n ≤ 4000) (hen : en ≤ 3000) : ∀ T : Tr, KX0 t n d en D σ0 v1 Q T ∧ KX1 t n d en D σ0 v1 Q T ∧ KX2 t n d en D σ0 v1 Q T ∧ KX3 t n d en D σ0 v1 Q T := by
  refine tr_ind ⟨fun A Z p Ts pe Ps w ho => absurd (show 0 = 1 from ho) (by decide), fun A Z p Ts pe Ps w a z k ho hnm hs0 hp hen1 hs hnd hpd hb go => ?_, fun A Z p Ts pe Ps w ho => absurd (show 2 = 1 from ho) (by decide), fun A Z p Ts pe Ps w ho => absurd (show 3 = 1 from ho) (by decide)⟩ (fun kd a b c d0 l r hl hr _ => ⟨x_chk0 hn hen hl.1 hl.2.1 hr.1 hr.2.2.1 hr.2.2.2, x_chk1 hn hen hl.1 hr.2.1, x_chk2 hn hen hl.1 hr.1, x_chk3 hn hen hl.1 hr.1⟩)
  exact RS.cs (go [] rfl) rfl rfl (m2_n w).symm
end ZX
