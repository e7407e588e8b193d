/-! THE CONSTRUCTORS, by program (gen_ctor.py) -/
theorem kr_nf {k d ci C S pc : Nat} {st fs : List Value} {as as' lf : List kcE} (e : as = as') (h : Wk k d ci C S pc st fs as' lf) : Wk k d ci C S pc st fs as lf := by
  subst e
  exact h
def kf_2 : List Value := [.int (Int32.ofInt 0), .ref 1, .ref 2, .ref 3, .ref 4, .int (Int32.ofInt 0), .ref 5, .ref 6, .ref 7, .int (Int32.ofInt 0), .ref 8]
def ka_2 : List kcE := [.inl (0, 60), .inl (0, 60), .inl (0, 60), .inl (2, 3000), .inl (0, 4000), .inl (1, 4000), .inl (0, 4000), .inl (0, 12000)]
set_option maxRecDepth 100000 in
set_option maxHeartbeats 8000000 in
theorem kt_2 {d : Nat} : Kt (d + 1) 3 2 kf_2 ka_2 := by
  refine Kt.of fk_q3 rfl rfl ?_
  refine kr_aload (n := 0) (by decide +kernel) rfl ?_
  refine kr_obj (idx := 3) (by decide +kernel) (fk_in1 (List.mem_of_getElem? (i := 43) rfl)) (fk_in1 (List.mem_of_getElem? (i := 30) rfl)) (fk_in1 (List.mem_of_getElem? (i := 31) rfl)) ?_
  refine kr_aload (n := 0) (by decide +kernel) rfl ?_
  refine kr_bipush (n := 60) (by decide +kernel) (by decide +kernel) ?_
  refine kr_newa (at0 := .int) (t := 0) (N := 60) (ty := .int) (by decide +kernel) rfl (Or.inl ⟨rfl, rfl⟩) (fk_in1 (List.mem_of_getElem? (i := 109) rfl)) (by decide +kernel) (by decide +kernel) (Nat.le_of_ble_eq_true rfl) (by decide +kernel) (by decide +kernel) ?_
  refine kr_put (idx := 9) (slot := 1) (v := .ref 1) (Cn := RX2) (T := TX2) (N := 11) (by decide +kernel) rfl rfl (by decide +kernel) (by decide +kernel) (fk_in1 (List.mem_of_getElem? (i := 47) rfl)) rfl (by decide +kernel) ?_
  refine kr_aload (n := 0) (by decide +kernel) rfl ?_
  refine kr_bipush (n := 60) (by decide +kernel) (by decide +kernel) ?_
  refine kr_newa (at0 := .int) (t := 0) (N := 60) (ty := .int) (by decide +kernel) rfl (Or.inl ⟨rfl, rfl⟩) (fk_in1 (List.mem_of_getElem? (i := 109) rfl)) (by decide +kernel) (by decide +kernel) (Nat.le_of_ble_eq_true rfl) (by decide +kernel) (by decide +kernel) ?_
  refine kr_put (idx := 15) (slot := 2) (v := .ref 2) (Cn := RX2) (T := TX2) (N := 11) (by decide +kernel) rfl rfl (by decide +kernel) (by decide +kernel) (fk_in1 (List.mem_of_getElem? (i := 51) rfl)) rfl (by decide +kernel) ?_
  refine kr_aload (n := 0) (by decide +kernel) rfl ?_
  refine kr_bipush (n := 60) (by decide +kernel) (by decide +kernel) ?_
  refine kr_newa (at0 := .int) (t := 0) (N := 60) (ty := .int) (by decide +kernel) rfl (Or.inl ⟨rfl, rfl⟩) (fk_in1 (List.mem_of_getElem? (i := 109) rfl)) (by decide +kernel) (by decide +kernel) (Nat.le_of_ble_eq_true rfl) (by decide +kernel) (by decide +kernel) ?_
  refine kr_put (idx := 18) (slot := 3) (v := .ref 3) (Cn := RX2) (T := TX2) (N := 11) (by decide +kernel) rfl rfl (by decide +kernel) (by decide +kernel) (fk_in1 (List.mem_of_getElem? (i := 55) rfl)) rfl (by decide +kernel) ?_
  refine kr_aload (n := 0) (by decide +kernel) rfl ?_
  refine kr_sipush (n := 3000) (by decide +kernel) (by decide +kernel) ?_
  refine kr_newa (at0 := .byte) (t := 2) (N := 3000) (ty := .byte) (by decide +kernel) rfl (Or.inr (Or.inr (Or.inl ⟨rfl, rfl⟩))) (fk_in1 (List.mem_of_getElem? (i := 107) rfl)) (by decide +kernel) (by decide +kernel) (Nat.le_of_ble_eq_true rfl) (by decide +kernel) (by decide +kernel) ?_
  refine kr_put (idx := 21) (slot := 4) (v := .ref 4) (Cn := RX2) (T := TX2) (N := 11) (by decide +kernel) rfl rfl (by decide +kernel) (by decide +kernel) (fk_in1 (List.mem_of_getElem? (i := 59) rfl)) rfl (by decide +kernel) ?_
  refine kr_aload (n := 0) (by decide +kernel) rfl ?_
  refine kr_sipush (n := 4000) (by decide +kernel) (by decide +kernel) ?_
  refine kr_newa (at0 := .int) (t := 0) (N := 4000) (ty := .int) (by decide +kernel) rfl (Or.inl ⟨rfl, rfl⟩) (fk_in1 (List.mem_of_getElem? (i := 109) rfl)) (by decide +kernel) (by decide +kernel) (Nat.le_of_ble_eq_true rfl) (by decide +kernel) (by decide +kernel) ?_
  refine kr_put (idx := 25) (slot := 6) (v := .ref 5) (Cn := RX2) (T := TX2) (N := 11) (by decide +kernel) rfl rfl (by decide +kernel) (by decide +kernel) (fk_in1 (List.mem_of_getElem? (i := 66) rfl)) rfl (by decide +kernel) ?_
  refine kr_aload (n := 0) (by decide +kernel) rfl ?_
  refine kr_sipush (n := 4000) (by decide +kernel) (by decide +kernel) ?_
  refine kr_newa (at0 := .long) (t := 1) (N := 4000) (ty := .long) (by decide +kernel) rfl (Or.inr (Or.inl ⟨rfl, rfl⟩)) (fk_in1 (List.mem_of_getElem? (i := 108) rfl)) (by decide +kernel) (by decide +kernel) (Nat.le_of_ble_eq_true rfl) (by decide +kernel) (by decide +kernel) ?_
  refine kr_put (idx := 28) (slot := 7) (v := .ref 6) (Cn := RX2) (T := TX2) (N := 11) (by decide +kernel) rfl rfl (by decide +kernel) (by decide +kernel) (fk_in1 (List.mem_of_getElem? (i := 70) rfl)) rfl (by decide +kernel) ?_
  refine kr_aload (n := 0) (by decide +kernel) rfl ?_
  refine kr_sipush (n := 4000) (by decide +kernel) (by decide +kernel) ?_
  refine kr_newa (at0 := .int) (t := 0) (N := 4000) (ty := .int) (by decide +kernel) rfl (Or.inl ⟨rfl, rfl⟩) (fk_in1 (List.mem_of_getElem? (i := 109) rfl)) (by decide +kernel) (by decide +kernel) (Nat.le_of_ble_eq_true rfl) (by decide +kernel) (by decide +kernel) ?_
  refine kr_put (idx := 32) (slot := 8) (v := .ref 7) (Cn := RX2) (T := TX2) (N := 11) (by decide +kernel) rfl rfl (by decide +kernel) (by decide +kernel) (fk_in1 (List.mem_of_getElem? (i := 74) rfl)) rfl (by decide +kernel) ?_
  refine kr_aload (n := 0) (by decide +kernel) rfl ?_
  refine kr_sipush (n := 12000) (by decide +kernel) (by decide +kernel) ?_
  refine kr_newa (at0 := .int) (t := 0) (N := 12000) (ty := .int) (by decide +kernel) rfl (Or.inl ⟨rfl, rfl⟩) (fk_in1 (List.mem_of_getElem? (i := 109) rfl)) (by decide +kernel) (by decide +kernel) (Nat.le_of_ble_eq_true rfl) (by decide +kernel) (by decide +kernel) ?_
  refine kr_put (idx := 35) (slot := 10) (v := .ref 8) (Cn := RX2) (T := TX2) (N := 11) (by decide +kernel) rfl rfl (by decide +kernel) (by decide +kernel) (fk_in1 (List.mem_of_getElem? (i := 81) rfl)) rfl (by decide +kernel) ?_
  exact kr_ret (by decide +kernel) rfl (by decide +kernel) (by decide +kernel) (by decide +kernel)
def kp_6_1 : List kcE := [.inl (2, 4000), .inl (0, 180), .inl (0, 60), .inl (1, 2), .inl (1, 2), .inl (0, 180), .inl (1, 60), .inl (0, 240), .inl (0, 180), .inl (1, 60), .inl (0, 4000)]
def kp_6_2 : List kcE := [.inl (2, 4000), .inl (0, 180), .inl (0, 60), .inl (1, 2), .inl (1, 2), .inl (0, 180), .inl (1, 60), .inl (0, 240), .inl (0, 180), .inl (1, 60), .inl (0, 4000), .inr (2, [.int (Int32.ofInt 0), .ref 13, .ref 14, .ref 15, .ref 16, .int (Int32.ofInt 0), .ref 17, .ref 18, .ref 19, .int (Int32.ofInt 0), .ref 20]), .inl (0, 60), .inl (0, 60), .inl (0, 60), .inl (2, 3000), .inl (0, 4000), .inl (1, 4000), .inl (0, 4000), .inl (0, 12000)]
def kf_6 : List Value := [.ref 1, .int (Int32.ofInt 0), .ref 2, .int (Int32.ofInt 0), .ref 3, .int (Int32.ofInt 0), .ref 4, .int (Int32.ofInt 0), .ref 5, .int (Int32.ofInt 0), .ref 6, .ref 7, .int (Int32.ofInt 0), .ref 8, .int (Int32.ofInt 0), .ref 9, .ref 10, .int (Int32.ofInt 0), .ref 11, .ref 12]
def ka_6 : List kcE := [.inl (2, 4000), .inl (0, 180), .inl (0, 60), .inl (1, 2), .inl (1, 2), .inl (0, 180), .inl (1, 60), .inl (0, 240), .inl (0, 180), .inl (1, 60), .inl (0, 4000), .inr (2, [.int (Int32.ofInt 0), .ref 13, .ref 14, .ref 15, .ref 16, .int (Int32.ofInt 0), .ref 17, .ref 18, .ref 19, .int (Int32.ofInt 0), .ref 20]), .inl (0, 60), .inl (0, 60), .inl (0, 60), .inl (2, 3000), .inl (0, 4000), .inl (1, 4000), .inl (0, 4000), .inl (0, 12000)]
set_option maxRecDepth 100000 in
set_option maxHeartbeats 8000000 in
theorem kt_6 {d : Nat} : Kt (d + 2) 2 6 kf_6 ka_6 := by
  refine Kt.of fk_q2 rfl rfl ?_
  refine kr_aload (n := 0) (by decide +kernel) rfl ?_
  refine kr_obj (idx := 3) (by decide +kernel) (fk_in1 (List.mem_of_getElem? (i := 37) rfl)) (fk_in1 (List.mem_of_getElem? (i := 30) rfl)) (fk_in1 (List.mem_of_getElem? (i := 31) rfl)) ?_
  refine kr_aload (n := 0) (by decide +kernel) rfl ?_
  refine kr_sipush (n := 4000) (by decide +kernel) (by decide +kernel) ?_
  refine kr_newa (at0 := .byte) (t := 2) (N := 4000) (ty := .byte) (by decide +kernel) rfl (Or.inr (Or.inr (Or.inl ⟨rfl, rfl⟩))) (fk_in1 (List.mem_of_getElem? (i := 107) rfl)) (by decide +kernel) (by decide +kernel) (Nat.le_of_ble_eq_true rfl) (by decide +kernel) (by decide +kernel) ?_
  refine kr_put (idx := 9) (slot := 0) (v := .ref 1) (Cn := RX6) (T := TX6) (N := 20) (by decide +kernel) rfl rfl (by decide +kernel) (by decide +kernel) (fk_in1 (List.mem_of_getElem? (i := 110) rfl)) rfl (by decide +kernel) ?_
  refine kr_aload (n := 0) (by decide +kernel) rfl ?_
  refine kr_sipush (n := 180) (by decide +kernel) (by decide +kernel) ?_
  refine kr_newa (at0 := .int) (t := 0) (N := 180) (ty := .int) (by decide +kernel) rfl (Or.inl ⟨rfl, rfl⟩) (fk_in1 (List.mem_of_getElem? (i := 109) rfl)) (by decide +kernel) (by decide +kernel) (Nat.le_of_ble_eq_true rfl) (by decide +kernel) (by decide +kernel) ?_
  refine kr_put (idx := 15) (slot := 2) (v := .ref 2) (Cn := RX6) (T := TX6) (N := 20) (by decide +kernel) rfl rfl (by decide +kernel) (by decide +kernel) (fk_in1 (List.mem_of_getElem? (i := 118) rfl)) rfl (by decide +kernel) ?_
  refine kr_aload (n := 0) (by decide +kernel) rfl ?_
  refine kr_bipush (n := 60) (by decide +kernel) (by decide +kernel) ?_
  refine kr_newa (at0 := .int) (t := 0) (N := 60) (ty := .int) (by decide +kernel) rfl (Or.inl ⟨rfl, rfl⟩) (fk_in1 (List.mem_of_getElem? (i := 109) rfl)) (by decide +kernel) (by decide +kernel) (Nat.le_of_ble_eq_true rfl) (by decide +kernel) (by decide +kernel) ?_
  refine kr_put (idx := 19) (slot := 4) (v := .ref 3) (Cn := RX6) (T := TX6) (N := 20) (by decide +kernel) rfl rfl (by decide +kernel) (by decide +kernel) (fk_in1 (List.mem_of_getElem? (i := 124) rfl)) rfl (by decide +kernel) ?_
  refine kr_aload (n := 0) (by decide +kernel) rfl ?_
  refine kr_iconst (n := 2) (by decide +kernel) ?_
  refine kr_newa (at0 := .long) (t := 1) (N := 2) (ty := .long) (by decide +kernel) rfl (Or.inr (Or.inl ⟨rfl, rfl⟩)) (fk_in1 (List.mem_of_getElem? (i := 108) rfl)) (by decide +kernel) (by decide +kernel) (Nat.le_of_ble_eq_true rfl) (by decide +kernel) (by decide +kernel) ?_
  refine kr_put (idx := 22) (slot := 6) (v := .ref 4) (Cn := RX6) (T := TX6) (N := 20) (by decide +kernel) rfl rfl (by decide +kernel) (by decide +kernel) (fk_in1 (List.mem_of_getElem? (i := 134) rfl)) rfl (by decide +kernel) ?_
  refine kr_aload (n := 0) (by decide +kernel) rfl ?_
  refine kr_iconst (n := 2) (by decide +kernel) ?_
  refine kr_newa (at0 := .long) (t := 1) (N := 2) (ty := .long) (by decide +kernel) rfl (Or.inr (Or.inl ⟨rfl, rfl⟩)) (fk_in1 (List.mem_of_getElem? (i := 108) rfl)) (by decide +kernel) (by decide +kernel) (Nat.le_of_ble_eq_true rfl) (by decide +kernel) (by decide +kernel) ?_
  refine kr_put (idx := 26) (slot := 8) (v := .ref 5) (Cn := RX6) (T := TX6) (N := 20) (by decide +kernel) rfl rfl (by decide +kernel) (by decide +kernel) (fk_in1 (List.mem_of_getElem? (i := 143) rfl)) rfl (by decide +kernel) ?_
  refine kr_aload (n := 0) (by decide +kernel) rfl ?_
  refine kr_sipush (n := 180) (by decide +kernel) (by decide +kernel) ?_
  refine kr_newa (at0 := .int) (t := 0) (N := 180) (ty := .int) (by decide +kernel) rfl (Or.inl ⟨rfl, rfl⟩) (fk_in1 (List.mem_of_getElem? (i := 109) rfl)) (by decide +kernel) (by decide +kernel) (Nat.le_of_ble_eq_true rfl) (by decide +kernel) (by decide +kernel) ?_
  refine kr_put (idx := 29) (slot := 10) (v := .ref 6) (Cn := RX6) (T := TX6) (N := 20) (by decide +kernel) rfl rfl (by decide +kernel) (by decide +kernel) (fk_in1 (List.mem_of_getElem? (i := 152) rfl)) rfl (by decide +kernel) ?_
  refine kr_aload (n := 0) (by decide +kernel) rfl ?_
  refine kr_bipush (n := 60) (by decide +kernel) (by decide +kernel) ?_
  refine kr_newa (at0 := .long) (t := 1) (N := 60) (ty := .long) (by decide +kernel) rfl (Or.inr (Or.inl ⟨rfl, rfl⟩)) (fk_in1 (List.mem_of_getElem? (i := 108) rfl)) (by decide +kernel) (by decide +kernel) (Nat.le_of_ble_eq_true rfl) (by decide +kernel) (by decide +kernel) ?_
  refine kr_put (idx := 32) (slot := 11) (v := .ref 7) (Cn := RX6) (T := TX6) (N := 20) (by decide +kernel) rfl rfl (by decide +kernel) (by decide +kernel) (fk_in1 (List.mem_of_getElem? (i := 155) rfl)) rfl (by decide +kernel) ?_
  refine kr_aload (n := 0) (by decide +kernel) rfl ?_
  refine kr_sipush (n := 240) (by decide +kernel) (by decide +kernel) ?_
  refine kr_newa (at0 := .int) (t := 0) (N := 240) (ty := .int) (by decide +kernel) rfl (Or.inl ⟨rfl, rfl⟩) (fk_in1 (List.mem_of_getElem? (i := 109) rfl)) (by decide +kernel) (by decide +kernel) (Nat.le_of_ble_eq_true rfl) (by decide +kernel) (by decide +kernel) ?_
  refine kr_put (idx := 35) (slot := 13) (v := .ref 8) (Cn := RX6) (T := TX6) (N := 20) (by decide +kernel) rfl rfl (by decide +kernel) (by decide +kernel) (fk_in1 (List.mem_of_getElem? (i := 162) rfl)) rfl (by decide +kernel) ?_
  refine kr_aload (n := 0) (by decide +kernel) rfl ?_
  refine kr_sipush (n := 180) (by decide +kernel) (by decide +kernel) ?_
  refine kr_newa (at0 := .int) (t := 0) (N := 180) (ty := .int) (by decide +kernel) rfl (Or.inl ⟨rfl, rfl⟩) (fk_in1 (List.mem_of_getElem? (i := 109) rfl)) (by decide +kernel) (by decide +kernel) (Nat.le_of_ble_eq_true rfl) (by decide +kernel) (by decide +kernel) ?_
  refine kr_put (idx := 38) (slot := 15) (v := .ref 9) (Cn := RX6) (T := TX6) (N := 20) (by decide +kernel) rfl rfl (by decide +kernel) (by decide +kernel) (fk_in1 (List.mem_of_getElem? (i := 170) rfl)) rfl (by decide +kernel) ?_
  refine kr_aload (n := 0) (by decide +kernel) rfl ?_
  refine kr_bipush (n := 60) (by decide +kernel) (by decide +kernel) ?_
  refine kr_newa (at0 := .long) (t := 1) (N := 60) (ty := .long) (by decide +kernel) rfl (Or.inr (Or.inl ⟨rfl, rfl⟩)) (fk_in1 (List.mem_of_getElem? (i := 108) rfl)) (by decide +kernel) (by decide +kernel) (Nat.le_of_ble_eq_true rfl) (by decide +kernel) (by decide +kernel) ?_
  refine kr_put (idx := 41) (slot := 16) (v := .ref 10) (Cn := RX6) (T := TX6) (N := 20) (by decide +kernel) rfl rfl (by decide +kernel) (by decide +kernel) (fk_in1 (List.mem_of_getElem? (i := 174) rfl)) rfl (by decide +kernel) ?_
  refine kr_aload (n := 0) (by decide +kernel) rfl ?_
  refine kr_sipush (n := 4000) (by decide +kernel) (by decide +kernel) ?_
  refine kr_newa (at0 := .int) (t := 0) (N := 4000) (ty := .int) (by decide +kernel) rfl (Or.inl ⟨rfl, rfl⟩) (fk_in1 (List.mem_of_getElem? (i := 109) rfl)) (by decide +kernel) (by decide +kernel) (Nat.le_of_ble_eq_true rfl) (by decide +kernel) (by decide +kernel) ?_
  refine kr_put (idx := 44) (slot := 18) (v := .ref 11) (Cn := RX6) (T := TX6) (N := 20) (by decide +kernel) rfl rfl (by decide +kernel) (by decide +kernel) (fk_in1 (List.mem_of_getElem? (i := 180) rfl)) rfl (by decide +kernel) ?_
  refine kr_aload (n := 0) (by decide +kernel) rfl ?_
  refine kr_nf (as' := kp_6_1) (by decide +kernel) ?_
  refine kr_new (i := 47) (cj := 2) (by decide +kernel) rfl (fk_in1 (List.mem_of_getElem? (i := 38) rfl)) (fk_in1 (List.mem_of_getElem? (i := 39) rfl)) (fk_in1 (List.mem_of_getElem? (i := 3) rfl)) (by decide +kernel) (by decide +kernel) ?_
  refine kr_dup (by decide +kernel) ?_
  refine kr_init (q := ("", TX2, 0)) (idx := 49) (as := kp_6_1) (j := 3) (cj := 2) (host := "FoldForge") (f2 := kf_2) (a2 := ka_2) (by decide +kernel) fk_q3 rfl rfl (fk_in1 (List.mem_of_getElem? (i := 40) rfl)) (fk_in1 (List.mem_of_getElem? (i := 41) rfl)) (by decide +kernel) (by decide +kernel) (by decide +kernel) (by decide +kernel) (by decide +kernel) (by decide +kernel) (kt_2 (d := d + 0)) ?_
  refine kr_nf (as' := kp_6_2) (by decide +kernel) ?_
  refine kr_put (idx := 50) (slot := 19) (v := .ref 12) (Cn := RX6) (T := TX6) (N := 20) (by decide +kernel) rfl rfl (by decide +kernel) (by decide +kernel) (fk_in1 (List.mem_of_getElem? (i := 184) rfl)) rfl (by decide +kernel) ?_
  exact kr_ret (by decide +kernel) rfl (by decide +kernel) (by decide +kernel) (by decide +kernel)
def kf_10 : List Value := [.ref 1, .int (Int32.ofInt 0), .int (Int32.ofInt 0), .int (Int32.ofInt 0), .int (Int32.ofInt (-1))]
def ka_10 : List kcE := [.inl (2, 0)]
set_option maxRecDepth 100000 in
set_option maxHeartbeats 8000000 in
theorem kt_10 {d : Nat} : Kt (d + 1) 5 10 kf_10 ka_10 := by
  refine Kt.of fk_q5 rfl rfl ?_
  refine kr_aload (n := 0) (by decide +kernel) rfl ?_
  refine kr_obj (idx := 3) (by decide +kernel) (fk_in2 (List.mem_of_getElem? (i := 0) rfl)) (fk_in1 (List.mem_of_getElem? (i := 30) rfl)) (fk_in1 (List.mem_of_getElem? (i := 31) rfl)) ?_
  refine kr_aload (n := 0) (by decide +kernel) rfl ?_
  refine kr_iconst (n := 0) (by decide +kernel) ?_
  refine kr_newa (at0 := .byte) (t := 2) (N := 0) (ty := .byte) (by decide +kernel) rfl (Or.inr (Or.inr (Or.inl ⟨rfl, rfl⟩))) (fk_in1 (List.mem_of_getElem? (i := 107) rfl)) (by decide +kernel) (by decide +kernel) (Nat.le_of_ble_eq_true rfl) (by decide +kernel) (by decide +kernel) ?_
  refine kr_put (idx := 9) (slot := 0) (v := .ref 1) (Cn := RX10) (T := TX10) (N := 5) (by decide +kernel) rfl rfl (by decide +kernel) (by decide +kernel) (fk_in2 (List.mem_of_getElem? (i := 1) rfl)) rfl (by decide +kernel) ?_
  refine kr_aload (n := 0) (by decide +kernel) rfl ?_
  refine kr_iconst (n := 0) (by decide +kernel) ?_
  refine kr_put (idx := 15) (slot := 1) (v := .int (Int32.ofInt 0)) (Cn := RX10) (T := TX10) (N := 5) (by decide +kernel) rfl rfl (by decide +kernel) (by decide +kernel) (fk_in2 (List.mem_of_getElem? (i := 3) rfl)) rfl (by decide +kernel) ?_
  refine kr_aload (n := 0) (by decide +kernel) rfl ?_
  refine kr_iconst (n := 0) (by decide +kernel) ?_
  refine kr_put (idx := 19) (slot := 2) (v := .int (Int32.ofInt 0)) (Cn := RX10) (T := TX10) (N := 5) (by decide +kernel) rfl rfl (by decide +kernel) (by decide +kernel) (fk_in2 (List.mem_of_getElem? (i := 6) rfl)) rfl (by decide +kernel) ?_
  refine kr_aload (n := 0) (by decide +kernel) rfl ?_
  refine kr_iconst (n := 0) (by decide +kernel) ?_
  refine kr_put (idx := 22) (slot := 3) (v := .int (Int32.ofInt 0)) (Cn := RX10) (T := TX10) (N := 5) (by decide +kernel) rfl rfl (by decide +kernel) (by decide +kernel) (fk_in2 (List.mem_of_getElem? (i := 9) rfl)) rfl (by decide +kernel) ?_
  refine kr_aload (n := 0) (by decide +kernel) rfl ?_
  refine kr_iconst (n := (-1)) (by decide +kernel) ?_
  refine kr_put (idx := 25) (slot := 4) (v := .int (Int32.ofInt (-1))) (Cn := RX10) (T := TX10) (N := 5) (by decide +kernel) rfl rfl (by decide +kernel) (by decide +kernel) (fk_in2 (List.mem_of_getElem? (i := 11) rfl)) rfl (by decide +kernel) ?_
  exact kr_ret (by decide +kernel) rfl (by decide +kernel) (by decide +kernel) (by decide +kernel)
def kf_1 : List Value := [.ref 1, .int (Int32.ofInt 0)]
def ka_1 : List kcE := [.inl (0, 20)]
set_option maxRecDepth 100000 in
set_option maxHeartbeats 8000000 in
theorem kt_1 {d : Nat} : Kt (d + 1) 6 1 kf_1 ka_1 := by
  refine Kt.of fk_q6 rfl rfl ?_
  refine kr_aload (n := 0) (by decide +kernel) rfl ?_
  refine kr_obj (idx := 3) (by decide +kernel) (fk_in2 (List.mem_of_getElem? (i := 29) rfl)) (fk_in1 (List.mem_of_getElem? (i := 30) rfl)) (fk_in1 (List.mem_of_getElem? (i := 31) rfl)) ?_
  refine kr_aload (n := 0) (by decide +kernel) rfl ?_
  refine kr_bipush (n := 20) (by decide +kernel) (by decide +kernel) ?_
  refine kr_newa (at0 := .int) (t := 0) (N := 20) (ty := .int) (by decide +kernel) rfl (Or.inl ⟨rfl, rfl⟩) (fk_in1 (List.mem_of_getElem? (i := 109) rfl)) (by decide +kernel) (by decide +kernel) (Nat.le_of_ble_eq_true rfl) (by decide +kernel) (by decide +kernel) ?_
  refine kr_put (idx := 11) (slot := 0) (v := .ref 1) (Cn := RX1) (T := TX1) (N := 2) (by decide +kernel) rfl rfl (by decide +kernel) (by decide +kernel) (fk_in2 (List.mem_of_getElem? (i := 30) rfl)) rfl (by decide +kernel) ?_
  exact kr_ret (by decide +kernel) rfl (by decide +kernel) (by decide +kernel) (by decide +kernel)
def kp_5_1 : List kcE := [.inr (10, [.ref 2, .int (Int32.ofInt 0), .int (Int32.ofInt 0), .int (Int32.ofInt 0), .int (Int32.ofInt (-1))]), .inl (2, 0)]
def kp_5_2 : List kcE := [.inr (10, [.ref 2, .int (Int32.ofInt 0), .int (Int32.ofInt 0), .int (Int32.ofInt 0), .int (Int32.ofInt (-1))]), .inl (2, 0), .inr (1, [.ref 4, .int (Int32.ofInt 0)]), .inl (0, 20)]
def kf_5 : List Value := [.ref 1, .ref 3, .int (Int32.ofInt 0)]
def ka_5 : List kcE := [.inr (10, [.ref 2, .int (Int32.ofInt 0), .int (Int32.ofInt 0), .int (Int32.ofInt 0), .int (Int32.ofInt (-1))]), .inl (2, 0), .inr (1, [.ref 4, .int (Int32.ofInt 0)]), .inl (0, 20)]
set_option maxRecDepth 100000 in
set_option maxHeartbeats 8000000 in
theorem kt_5 {d : Nat} : Kt (d + 2) 4 5 kf_5 ka_5 := by
  refine Kt.of fk_q4 rfl rfl ?_
  refine kr_aload (n := 0) (by decide +kernel) rfl ?_
  refine kr_obj (idx := 3) (by decide +kernel) (fk_in1 (List.mem_of_getElem? (i := 234) rfl)) (fk_in1 (List.mem_of_getElem? (i := 30) rfl)) (fk_in1 (List.mem_of_getElem? (i := 31) rfl)) ?_
  refine kr_aload (n := 0) (by decide +kernel) rfl ?_
  refine kr_new (i := 9) (cj := 10) (by decide +kernel) rfl (fk_in1 (List.mem_of_getElem? (i := 235) rfl)) (fk_in1 (List.mem_of_getElem? (i := 236) rfl)) (fk_in1 (List.mem_of_getElem? (i := 5) rfl)) (by decide +kernel) (by decide +kernel) ?_
  refine kr_dup (by decide +kernel) ?_
  refine kr_init (q := ("", TX2, 0)) (idx := 11) (as := []) (j := 5) (cj := 10) (host := "FoldForge") (f2 := kf_10) (a2 := ka_10) (by decide +kernel) fk_q5 rfl rfl (fk_in1 (List.mem_of_getElem? (i := 237) rfl)) (fk_in1 (List.mem_of_getElem? (i := 238) rfl)) (by decide +kernel) (by decide +kernel) (by decide +kernel) (by decide +kernel) (by decide +kernel) (by decide +kernel) (kt_10 (d := d + 0)) ?_
  refine kr_nf (as' := kp_5_1) (by decide +kernel) ?_
  refine kr_put (idx := 12) (slot := 0) (v := .ref 1) (Cn := RX5) (T := TX5) (N := 3) (by decide +kernel) rfl rfl (by decide +kernel) (by decide +kernel) (fk_in2 (List.mem_of_getElem? (i := 37) rfl)) rfl (by decide +kernel) ?_
  refine kr_aload (n := 0) (by decide +kernel) rfl ?_
  refine kr_new (i := 18) (cj := 1) (by decide +kernel) rfl (fk_in2 (List.mem_of_getElem? (i := 24) rfl)) (fk_in2 (List.mem_of_getElem? (i := 25) rfl)) (fk_in1 (List.mem_of_getElem? (i := 6) rfl)) (by decide +kernel) (by decide +kernel) ?_
  refine kr_dup (by decide +kernel) ?_
  refine kr_init (q := ("", TX2, 0)) (idx := 20) (as := kp_5_1) (j := 6) (cj := 1) (host := "FoldForge") (f2 := kf_1) (a2 := ka_1) (by decide +kernel) fk_q6 rfl rfl (fk_in2 (List.mem_of_getElem? (i := 26) rfl)) (fk_in2 (List.mem_of_getElem? (i := 27) rfl)) (by decide +kernel) (by decide +kernel) (by decide +kernel) (by decide +kernel) (by decide +kernel) (by decide +kernel) (kt_1 (d := d + 0)) ?_
  refine kr_nf (as' := kp_5_2) (by decide +kernel) ?_
  refine kr_put (idx := 21) (slot := 1) (v := .ref 3) (Cn := RX5) (T := TX5) (N := 3) (by decide +kernel) rfl rfl (by decide +kernel) (by decide +kernel) (fk_in2 (List.mem_of_getElem? (i := 39) rfl)) rfl (by decide +kernel) ?_
  exact kr_ret (by decide +kernel) rfl (by decide +kernel) (by decide +kernel) (by decide +kernel)
def kf_3 : List Value := [.null, .null, .int (Int32.ofInt 0), .int (Int32.ofInt 0), .ref 1, .int (Int32.ofInt 0), .ref 2, .ref 3, .ref 4, .ref 5, .int (Int32.ofInt 0)]
def ka_3 : List kcE := [.inl (0, 4100), .inl (0, 22), .inl (0, 22), .inl (0, 22), .inl (3, 22)]
set_option maxRecDepth 100000 in
set_option maxHeartbeats 8000000 in
theorem kt_3 {d : Nat} : Kt (d + 1) 7 3 kf_3 ka_3 := by
  refine Kt.of fk_q7 rfl rfl ?_
  refine kr_aload (n := 0) (by decide +kernel) rfl ?_
  refine kr_obj (idx := 3) (by decide +kernel) (fk_in2 (List.mem_of_getElem? (i := 53) rfl)) (fk_in1 (List.mem_of_getElem? (i := 30) rfl)) (fk_in1 (List.mem_of_getElem? (i := 31) rfl)) ?_
  refine kr_aload (n := 0) (by decide +kernel) rfl ?_
  refine kr_null (by decide +kernel) ?_
  refine kr_put (idx := 9) (slot := 0) (v := .null) (Cn := RX3) (T := TX3) (N := 11) (by decide +kernel) rfl rfl (by decide +kernel) (by decide +kernel) (fk_in2 (List.mem_of_getElem? (i := 54) rfl)) rfl (by decide +kernel) ?_
  refine kr_aload (n := 0) (by decide +kernel) rfl ?_
  refine kr_null (by decide +kernel) ?_
  refine kr_put (idx := 15) (slot := 1) (v := .null) (Cn := RX3) (T := TX3) (N := 11) (by decide +kernel) rfl rfl (by decide +kernel) (by decide +kernel) (fk_in2 (List.mem_of_getElem? (i := 55) rfl)) rfl (by decide +kernel) ?_
  refine kr_aload (n := 0) (by decide +kernel) rfl ?_
  refine kr_sipush (n := 4100) (by decide +kernel) (by decide +kernel) ?_
  refine kr_newa (at0 := .int) (t := 0) (N := 4100) (ty := .int) (by decide +kernel) rfl (Or.inl ⟨rfl, rfl⟩) (fk_in1 (List.mem_of_getElem? (i := 109) rfl)) (by decide +kernel) (by decide +kernel) (Nat.le_of_ble_eq_true rfl) (by decide +kernel) (by decide +kernel) ?_
  refine kr_put (idx := 19) (slot := 4) (v := .ref 1) (Cn := RX3) (T := TX3) (N := 11) (by decide +kernel) rfl rfl (by decide +kernel) (by decide +kernel) (fk_in2 (List.mem_of_getElem? (i := 58) rfl)) rfl (by decide +kernel) ?_
  refine kr_aload (n := 0) (by decide +kernel) rfl ?_
  refine kr_bipush (n := 22) (by decide +kernel) (by decide +kernel) ?_
  refine kr_newa (at0 := .int) (t := 0) (N := 22) (ty := .int) (by decide +kernel) rfl (Or.inl ⟨rfl, rfl⟩) (fk_in1 (List.mem_of_getElem? (i := 109) rfl)) (by decide +kernel) (by decide +kernel) (Nat.le_of_ble_eq_true rfl) (by decide +kernel) (by decide +kernel) ?_
  refine kr_put (idx := 23) (slot := 6) (v := .ref 2) (Cn := RX3) (T := TX3) (N := 11) (by decide +kernel) rfl rfl (by decide +kernel) (by decide +kernel) (fk_in2 (List.mem_of_getElem? (i := 60) rfl)) rfl (by decide +kernel) ?_
  refine kr_aload (n := 0) (by decide +kernel) rfl ?_
  refine kr_bipush (n := 22) (by decide +kernel) (by decide +kernel) ?_
  refine kr_newa (at0 := .int) (t := 0) (N := 22) (ty := .int) (by decide +kernel) rfl (Or.inl ⟨rfl, rfl⟩) (fk_in1 (List.mem_of_getElem? (i := 109) rfl)) (by decide +kernel) (by decide +kernel) (Nat.le_of_ble_eq_true rfl) (by decide +kernel) (by decide +kernel) ?_
  refine kr_put (idx := 26) (slot := 7) (v := .ref 3) (Cn := RX3) (T := TX3) (N := 11) (by decide +kernel) rfl rfl (by decide +kernel) (by decide +kernel) (fk_in2 (List.mem_of_getElem? (i := 61) rfl)) rfl (by decide +kernel) ?_
  refine kr_aload (n := 0) (by decide +kernel) rfl ?_
  refine kr_bipush (n := 22) (by decide +kernel) (by decide +kernel) ?_
  refine kr_newa (at0 := .int) (t := 0) (N := 22) (ty := .int) (by decide +kernel) rfl (Or.inl ⟨rfl, rfl⟩) (fk_in1 (List.mem_of_getElem? (i := 109) rfl)) (by decide +kernel) (by decide +kernel) (Nat.le_of_ble_eq_true rfl) (by decide +kernel) (by decide +kernel) ?_
  refine kr_put (idx := 29) (slot := 8) (v := .ref 4) (Cn := RX3) (T := TX3) (N := 11) (by decide +kernel) rfl rfl (by decide +kernel) (by decide +kernel) (fk_in2 (List.mem_of_getElem? (i := 62) rfl)) rfl (by decide +kernel) ?_
  refine kr_aload (n := 0) (by decide +kernel) rfl ?_
  refine kr_bipush (n := 22) (by decide +kernel) (by decide +kernel) ?_
  refine kr_newa (at0 := .boolean) (t := 3) (N := 22) (ty := .boolean) (by decide +kernel) rfl (Or.inr (Or.inr (Or.inr ⟨rfl, rfl⟩))) (fk_in2 (List.mem_of_getElem? (i := 88) rfl)) (by decide +kernel) (by decide +kernel) (Nat.le_of_ble_eq_true rfl) (by decide +kernel) (by decide +kernel) ?_
  refine kr_put (idx := 32) (slot := 9) (v := .ref 5) (Cn := RX3) (T := TX3) (N := 11) (by decide +kernel) rfl rfl (by decide +kernel) (by decide +kernel) (fk_in2 (List.mem_of_getElem? (i := 63) rfl)) rfl (by decide +kernel) ?_
  exact kr_ret (by decide +kernel) rfl (by decide +kernel) (by decide +kernel) (by decide +kernel)
def kf_4 : List Value := [.null, .null, .ref 1, .ref 2, .int (Int32.ofInt 0), .ref 3, .int (Int32.ofInt 0), .ref 4, .int (Int32.ofInt 0), .ref 5, .int (Int32.ofInt 0), .int (Int32.ofInt 0), .int (Int32.ofInt 0), .int (Int32.ofInt 0), .int (Int32.ofInt 0), .int (Int32.ofInt 0), .long (Int64.ofNat 0)]
def ka_4 : List kcE := [.inl (1, 60), .inl (1, 16384), .inl (0, 100), .inl (1, 24000), .inl (0, 192)]
set_option maxRecDepth 100000 in
set_option maxHeartbeats 8000000 in
theorem kt_4 {d : Nat} : Kt (d + 1) 8 4 kf_4 ka_4 := by
  refine Kt.of fk_q8 rfl rfl ?_
  refine kr_aload (n := 0) (by decide +kernel) rfl ?_
  refine kr_obj (idx := 3) (by decide +kernel) (fk_in2 (List.mem_of_getElem? (i := 94) rfl)) (fk_in1 (List.mem_of_getElem? (i := 30) rfl)) (fk_in1 (List.mem_of_getElem? (i := 31) rfl)) ?_
  refine kr_aload (n := 0) (by decide +kernel) rfl ?_
  refine kr_null (by decide +kernel) ?_
  refine kr_put (idx := 9) (slot := 0) (v := .null) (Cn := RX4) (T := TX4) (N := 17) (by decide +kernel) rfl rfl (by decide +kernel) (by decide +kernel) (fk_in2 (List.mem_of_getElem? (i := 95) rfl)) rfl (by decide +kernel) ?_
  refine kr_aload (n := 0) (by decide +kernel) rfl ?_
  refine kr_null (by decide +kernel) ?_
  refine kr_put (idx := 15) (slot := 1) (v := .null) (Cn := RX4) (T := TX4) (N := 17) (by decide +kernel) rfl rfl (by decide +kernel) (by decide +kernel) (fk_in2 (List.mem_of_getElem? (i := 96) rfl)) rfl (by decide +kernel) ?_
  refine kr_aload (n := 0) (by decide +kernel) rfl ?_
  refine kr_bipush (n := 60) (by decide +kernel) (by decide +kernel) ?_
  refine kr_newa (at0 := .long) (t := 1) (N := 60) (ty := .long) (by decide +kernel) rfl (Or.inr (Or.inl ⟨rfl, rfl⟩)) (fk_in1 (List.mem_of_getElem? (i := 108) rfl)) (by decide +kernel) (by decide +kernel) (Nat.le_of_ble_eq_true rfl) (by decide +kernel) (by decide +kernel) ?_
  refine kr_put (idx := 19) (slot := 2) (v := .ref 1) (Cn := RX4) (T := TX4) (N := 17) (by decide +kernel) rfl rfl (by decide +kernel) (by decide +kernel) (fk_in2 (List.mem_of_getElem? (i := 97) rfl)) rfl (by decide +kernel) ?_
  refine kr_aload (n := 0) (by decide +kernel) rfl ?_
  refine kr_sipush (n := 16384) (by decide +kernel) (by decide +kernel) ?_
  refine kr_newa (at0 := .long) (t := 1) (N := 16384) (ty := .long) (by decide +kernel) rfl (Or.inr (Or.inl ⟨rfl, rfl⟩)) (fk_in1 (List.mem_of_getElem? (i := 108) rfl)) (by decide +kernel) (by decide +kernel) (Nat.le_of_ble_eq_true rfl) (by decide +kernel) (by decide +kernel) ?_
  refine kr_put (idx := 23) (slot := 3) (v := .ref 2) (Cn := RX4) (T := TX4) (N := 17) (by decide +kernel) rfl rfl (by decide +kernel) (by decide +kernel) (fk_in2 (List.mem_of_getElem? (i := 99) rfl)) rfl (by decide +kernel) ?_
  refine kr_aload (n := 0) (by decide +kernel) rfl ?_
  refine kr_iconst (n := 0) (by decide +kernel) ?_
  refine kr_put (idx := 26) (slot := 4) (v := .int (Int32.ofInt 0)) (Cn := RX4) (T := TX4) (N := 17) (by decide +kernel) rfl rfl (by decide +kernel) (by decide +kernel) (fk_in2 (List.mem_of_getElem? (i := 100) rfl)) rfl (by decide +kernel) ?_
  refine kr_aload (n := 0) (by decide +kernel) rfl ?_
  refine kr_bipush (n := 100) (by decide +kernel) (by decide +kernel) ?_
  refine kr_newa (at0 := .int) (t := 0) (N := 100) (ty := .int) (by decide +kernel) rfl (Or.inl ⟨rfl, rfl⟩) (fk_in1 (List.mem_of_getElem? (i := 109) rfl)) (by decide +kernel) (by decide +kernel) (Nat.le_of_ble_eq_true rfl) (by decide +kernel) (by decide +kernel) ?_
  refine kr_put (idx := 30) (slot := 5) (v := .ref 3) (Cn := RX4) (T := TX4) (N := 17) (by decide +kernel) rfl rfl (by decide +kernel) (by decide +kernel) (fk_in2 (List.mem_of_getElem? (i := 102) rfl)) rfl (by decide +kernel) ?_
  refine kr_aload (n := 0) (by decide +kernel) rfl ?_
  refine kr_iconst (n := 0) (by decide +kernel) ?_
  refine kr_put (idx := 34) (slot := 6) (v := .int (Int32.ofInt 0)) (Cn := RX4) (T := TX4) (N := 17) (by decide +kernel) rfl rfl (by decide +kernel) (by decide +kernel) (fk_in2 (List.mem_of_getElem? (i := 104) rfl)) rfl (by decide +kernel) ?_
  refine kr_aload (n := 0) (by decide +kernel) rfl ?_
  refine kr_sipush (n := 24000) (by decide +kernel) (by decide +kernel) ?_
  refine kr_newa (at0 := .long) (t := 1) (N := 24000) (ty := .long) (by decide +kernel) rfl (Or.inr (Or.inl ⟨rfl, rfl⟩)) (fk_in1 (List.mem_of_getElem? (i := 108) rfl)) (by decide +kernel) (by decide +kernel) (Nat.le_of_ble_eq_true rfl) (by decide +kernel) (by decide +kernel) ?_
  refine kr_put (idx := 37) (slot := 7) (v := .ref 4) (Cn := RX4) (T := TX4) (N := 17) (by decide +kernel) rfl rfl (by decide +kernel) (by decide +kernel) (fk_in2 (List.mem_of_getElem? (i := 106) rfl)) rfl (by decide +kernel) ?_
  refine kr_aload (n := 0) (by decide +kernel) rfl ?_
  refine kr_sipush (n := 192) (by decide +kernel) (by decide +kernel) ?_
  refine kr_newa (at0 := .int) (t := 0) (N := 192) (ty := .int) (by decide +kernel) rfl (Or.inl ⟨rfl, rfl⟩) (fk_in1 (List.mem_of_getElem? (i := 109) rfl)) (by decide +kernel) (by decide +kernel) (Nat.le_of_ble_eq_true rfl) (by decide +kernel) (by decide +kernel) ?_
  refine kr_put (idx := 40) (slot := 9) (v := .ref 5) (Cn := RX4) (T := TX4) (N := 17) (by decide +kernel) rfl rfl (by decide +kernel) (by decide +kernel) (fk_in2 (List.mem_of_getElem? (i := 108) rfl)) rfl (by decide +kernel) ?_
  exact kr_ret (by decide +kernel) rfl (by decide +kernel) (by decide +kernel) (by decide +kernel)
def kf_8 : List Value := [.int (Int32.ofInt 0), .ref 1, .ref 2, .ref 3, .ref 4, .ref 5, .ref 6, .ref 7, .ref 8, .int (Int32.ofInt 0), .ref 9, .ref 10, .ref 11, .ref 12]
def ka_8 : List kcE := [.inl (1, 20), .inl (0, 20), .inl (0, 20), .inl (0, 20), .inl (0, 20), .inl (1, 80), .inl (0, 80), .inl (0, 80), .inl (0, 3000), .inl (1, 3000), .inl (0, 3000), .inl (0, 3000)]
set_option maxRecDepth 100000 in
set_option maxHeartbeats 8000000 in
theorem kt_8 {d : Nat} : Kt (d + 1) 9 8 kf_8 ka_8 := by
  refine Kt.of fk_q9 rfl rfl ?_
  refine kr_aload (n := 0) (by decide +kernel) rfl ?_
  refine kr_obj (idx := 3) (by decide +kernel) (fk_in2 (List.mem_of_getElem? (i := 159) rfl)) (fk_in1 (List.mem_of_getElem? (i := 30) rfl)) (fk_in1 (List.mem_of_getElem? (i := 31) rfl)) ?_
  refine kr_aload (n := 0) (by decide +kernel) rfl ?_
  refine kr_bipush (n := 20) (by decide +kernel) (by decide +kernel) ?_
  refine kr_newa (at0 := .long) (t := 1) (N := 20) (ty := .long) (by decide +kernel) rfl (Or.inr (Or.inl ⟨rfl, rfl⟩)) (fk_in1 (List.mem_of_getElem? (i := 108) rfl)) (by decide +kernel) (by decide +kernel) (Nat.le_of_ble_eq_true rfl) (by decide +kernel) (by decide +kernel) ?_
  refine kr_put (idx := 9) (slot := 1) (v := .ref 1) (Cn := RX8) (T := TX8) (N := 14) (by decide +kernel) rfl rfl (by decide +kernel) (by decide +kernel) (fk_in2 (List.mem_of_getElem? (i := 164) rfl)) rfl (by decide +kernel) ?_
  refine kr_aload (n := 0) (by decide +kernel) rfl ?_
  refine kr_bipush (n := 20) (by decide +kernel) (by decide +kernel) ?_
  refine kr_newa (at0 := .int) (t := 0) (N := 20) (ty := .int) (by decide +kernel) rfl (Or.inl ⟨rfl, rfl⟩) (fk_in1 (List.mem_of_getElem? (i := 109) rfl)) (by decide +kernel) (by decide +kernel) (Nat.le_of_ble_eq_true rfl) (by decide +kernel) (by decide +kernel) ?_
  refine kr_put (idx := 13) (slot := 2) (v := .ref 2) (Cn := RX8) (T := TX8) (N := 14) (by decide +kernel) rfl rfl (by decide +kernel) (by decide +kernel) (fk_in2 (List.mem_of_getElem? (i := 167) rfl)) rfl (by decide +kernel) ?_
  refine kr_aload (n := 0) (by decide +kernel) rfl ?_
  refine kr_bipush (n := 20) (by decide +kernel) (by decide +kernel) ?_
  refine kr_newa (at0 := .int) (t := 0) (N := 20) (ty := .int) (by decide +kernel) rfl (Or.inl ⟨rfl, rfl⟩) (fk_in1 (List.mem_of_getElem? (i := 109) rfl)) (by decide +kernel) (by decide +kernel) (Nat.le_of_ble_eq_true rfl) (by decide +kernel) (by decide +kernel) ?_
  refine kr_put (idx := 17) (slot := 3) (v := .ref 3) (Cn := RX8) (T := TX8) (N := 14) (by decide +kernel) rfl rfl (by decide +kernel) (by decide +kernel) (fk_in2 (List.mem_of_getElem? (i := 170) rfl)) rfl (by decide +kernel) ?_
  refine kr_aload (n := 0) (by decide +kernel) rfl ?_
  refine kr_bipush (n := 20) (by decide +kernel) (by decide +kernel) ?_
  refine kr_newa (at0 := .int) (t := 0) (N := 20) (ty := .int) (by decide +kernel) rfl (Or.inl ⟨rfl, rfl⟩) (fk_in1 (List.mem_of_getElem? (i := 109) rfl)) (by decide +kernel) (by decide +kernel) (Nat.le_of_ble_eq_true rfl) (by decide +kernel) (by decide +kernel) ?_
  refine kr_put (idx := 20) (slot := 4) (v := .ref 4) (Cn := RX8) (T := TX8) (N := 14) (by decide +kernel) rfl rfl (by decide +kernel) (by decide +kernel) (fk_in2 (List.mem_of_getElem? (i := 174) rfl)) rfl (by decide +kernel) ?_
  refine kr_aload (n := 0) (by decide +kernel) rfl ?_
  refine kr_bipush (n := 20) (by decide +kernel) (by decide +kernel) ?_
  refine kr_newa (at0 := .int) (t := 0) (N := 20) (ty := .int) (by decide +kernel) rfl (Or.inl ⟨rfl, rfl⟩) (fk_in1 (List.mem_of_getElem? (i := 109) rfl)) (by decide +kernel) (by decide +kernel) (Nat.le_of_ble_eq_true rfl) (by decide +kernel) (by decide +kernel) ?_
  refine kr_put (idx := 23) (slot := 5) (v := .ref 5) (Cn := RX8) (T := TX8) (N := 14) (by decide +kernel) rfl rfl (by decide +kernel) (by decide +kernel) (fk_in2 (List.mem_of_getElem? (i := 177) rfl)) rfl (by decide +kernel) ?_
  refine kr_aload (n := 0) (by decide +kernel) rfl ?_
  refine kr_bipush (n := 80) (by decide +kernel) (by decide +kernel) ?_
  refine kr_newa (at0 := .long) (t := 1) (N := 80) (ty := .long) (by decide +kernel) rfl (Or.inr (Or.inl ⟨rfl, rfl⟩)) (fk_in1 (List.mem_of_getElem? (i := 108) rfl)) (by decide +kernel) (by decide +kernel) (Nat.le_of_ble_eq_true rfl) (by decide +kernel) (by decide +kernel) ?_
  refine kr_put (idx := 26) (slot := 6) (v := .ref 6) (Cn := RX8) (T := TX8) (N := 14) (by decide +kernel) rfl rfl (by decide +kernel) (by decide +kernel) (fk_in2 (List.mem_of_getElem? (i := 181) rfl)) rfl (by decide +kernel) ?_
  refine kr_aload (n := 0) (by decide +kernel) rfl ?_
  refine kr_bipush (n := 80) (by decide +kernel) (by decide +kernel) ?_
  refine kr_newa (at0 := .int) (t := 0) (N := 80) (ty := .int) (by decide +kernel) rfl (Or.inl ⟨rfl, rfl⟩) (fk_in1 (List.mem_of_getElem? (i := 109) rfl)) (by decide +kernel) (by decide +kernel) (Nat.le_of_ble_eq_true rfl) (by decide +kernel) (by decide +kernel) ?_
  refine kr_put (idx := 29) (slot := 7) (v := .ref 7) (Cn := RX8) (T := TX8) (N := 14) (by decide +kernel) rfl rfl (by decide +kernel) (by decide +kernel) (fk_in2 (List.mem_of_getElem? (i := 184) rfl)) rfl (by decide +kernel) ?_
  refine kr_aload (n := 0) (by decide +kernel) rfl ?_
  refine kr_bipush (n := 80) (by decide +kernel) (by decide +kernel) ?_
  refine kr_newa (at0 := .int) (t := 0) (N := 80) (ty := .int) (by decide +kernel) rfl (Or.inl ⟨rfl, rfl⟩) (fk_in1 (List.mem_of_getElem? (i := 109) rfl)) (by decide +kernel) (by decide +kernel) (Nat.le_of_ble_eq_true rfl) (by decide +kernel) (by decide +kernel) ?_
  refine kr_put (idx := 32) (slot := 8) (v := .ref 8) (Cn := RX8) (T := TX8) (N := 14) (by decide +kernel) rfl rfl (by decide +kernel) (by decide +kernel) (fk_in2 (List.mem_of_getElem? (i := 187) rfl)) rfl (by decide +kernel) ?_
  refine kr_aload (n := 0) (by decide +kernel) rfl ?_
  refine kr_sipush (n := 3000) (by decide +kernel) (by decide +kernel) ?_
  refine kr_newa (at0 := .int) (t := 0) (N := 3000) (ty := .int) (by decide +kernel) rfl (Or.inl ⟨rfl, rfl⟩) (fk_in1 (List.mem_of_getElem? (i := 109) rfl)) (by decide +kernel) (by decide +kernel) (Nat.le_of_ble_eq_true rfl) (by decide +kernel) (by decide +kernel) ?_
  refine kr_put (idx := 35) (slot := 10) (v := .ref 9) (Cn := RX8) (T := TX8) (N := 14) (by decide +kernel) rfl rfl (by decide +kernel) (by decide +kernel) (fk_in2 (List.mem_of_getElem? (i := 194) rfl)) rfl (by decide +kernel) ?_
  refine kr_aload (n := 0) (by decide +kernel) rfl ?_
  refine kr_sipush (n := 3000) (by decide +kernel) (by decide +kernel) ?_
  refine kr_newa (at0 := .long) (t := 1) (N := 3000) (ty := .long) (by decide +kernel) rfl (Or.inr (Or.inl ⟨rfl, rfl⟩)) (fk_in1 (List.mem_of_getElem? (i := 108) rfl)) (by decide +kernel) (by decide +kernel) (Nat.le_of_ble_eq_true rfl) (by decide +kernel) (by decide +kernel) ?_
  refine kr_put (idx := 38) (slot := 11) (v := .ref 10) (Cn := RX8) (T := TX8) (N := 14) (by decide +kernel) rfl rfl (by decide +kernel) (by decide +kernel) (fk_in2 (List.mem_of_getElem? (i := 197) rfl)) rfl (by decide +kernel) ?_
  refine kr_aload (n := 0) (by decide +kernel) rfl ?_
  refine kr_sipush (n := 3000) (by decide +kernel) (by decide +kernel) ?_
  refine kr_newa (at0 := .int) (t := 0) (N := 3000) (ty := .int) (by decide +kernel) rfl (Or.inl ⟨rfl, rfl⟩) (fk_in1 (List.mem_of_getElem? (i := 109) rfl)) (by decide +kernel) (by decide +kernel) (Nat.le_of_ble_eq_true rfl) (by decide +kernel) (by decide +kernel) ?_
  refine kr_put (idx := 41) (slot := 12) (v := .ref 11) (Cn := RX8) (T := TX8) (N := 14) (by decide +kernel) rfl rfl (by decide +kernel) (by decide +kernel) (fk_in2 (List.mem_of_getElem? (i := 200) rfl)) rfl (by decide +kernel) ?_
  refine kr_aload (n := 0) (by decide +kernel) rfl ?_
  refine kr_sipush (n := 3000) (by decide +kernel) (by decide +kernel) ?_
  refine kr_newa (at0 := .int) (t := 0) (N := 3000) (ty := .int) (by decide +kernel) rfl (Or.inl ⟨rfl, rfl⟩) (fk_in1 (List.mem_of_getElem? (i := 109) rfl)) (by decide +kernel) (by decide +kernel) (Nat.le_of_ble_eq_true rfl) (by decide +kernel) (by decide +kernel) ?_
  refine kr_put (idx := 44) (slot := 13) (v := .ref 12) (Cn := RX8) (T := TX8) (N := 14) (by decide +kernel) rfl rfl (by decide +kernel) (by decide +kernel) (fk_in2 (List.mem_of_getElem? (i := 202) rfl)) rfl (by decide +kernel) ?_
  exact kr_ret (by decide +kernel) rfl (by decide +kernel) (by decide +kernel) (by decide +kernel)
def kf_7 : List Value := [.null, .ref 1, .int (Int32.ofInt 0), .int (Int32.ofInt 0), .ref 2, .ref 3, .ref 4, .int (Int32.ofInt 0), .int (Int32.ofInt 0), .int (Int32.ofInt 0), .int (Int32.ofInt 0), .long (Int64.ofNat 0), .int (Int32.ofInt 0), .int (Int32.ofInt 0)]
def ka_7 : List kcE := [.inl (2, 0), .inl (0, 4001), .inl (0, 4001), .inl (1, 4001)]
set_option maxRecDepth 100000 in
set_option maxHeartbeats 8000000 in
theorem kt_7 {d : Nat} : Kt (d + 1) 10 7 kf_7 ka_7 := by
  refine Kt.of fk_q10 rfl rfl ?_
  refine kr_aload (n := 0) (by decide +kernel) rfl ?_
  refine kr_obj (idx := 5) (by decide +kernel) (fk_in2 (List.mem_of_getElem? (i := 238) rfl)) (fk_in1 (List.mem_of_getElem? (i := 30) rfl)) (fk_in1 (List.mem_of_getElem? (i := 31) rfl)) ?_
  refine kr_aload (n := 0) (by decide +kernel) rfl ?_
  refine kr_null (by decide +kernel) ?_
  refine kr_put (idx := 11) (slot := 0) (v := .null) (Cn := RX7) (T := TX7) (N := 14) (by decide +kernel) rfl rfl (by decide +kernel) (by decide +kernel) (fk_in2 (List.mem_of_getElem? (i := 239) rfl)) rfl (by decide +kernel) ?_
  refine kr_aload (n := 0) (by decide +kernel) rfl ?_
  refine kr_iconst (n := 0) (by decide +kernel) ?_
  refine kr_newa (at0 := .byte) (t := 2) (N := 0) (ty := .byte) (by decide +kernel) rfl (Or.inr (Or.inr (Or.inl ⟨rfl, rfl⟩))) (fk_in1 (List.mem_of_getElem? (i := 107) rfl)) (by decide +kernel) (by decide +kernel) (Nat.le_of_ble_eq_true rfl) (by decide +kernel) (by decide +kernel) ?_
  refine kr_put (idx := 17) (slot := 1) (v := .ref 1) (Cn := RX7) (T := TX7) (N := 14) (by decide +kernel) rfl rfl (by decide +kernel) (by decide +kernel) (fk_in3 (List.mem_of_getElem? (i := 0) rfl)) rfl (by decide +kernel) ?_
  refine kr_aload (n := 0) (by decide +kernel) rfl ?_
  refine kr_sipush (n := 4001) (by decide +kernel) (by decide +kernel) ?_
  refine kr_newa (at0 := .int) (t := 0) (N := 4001) (ty := .int) (by decide +kernel) rfl (Or.inl ⟨rfl, rfl⟩) (fk_in1 (List.mem_of_getElem? (i := 109) rfl)) (by decide +kernel) (by decide +kernel) (Nat.le_of_ble_eq_true rfl) (by decide +kernel) (by decide +kernel) ?_
  refine kr_put (idx := 21) (slot := 4) (v := .ref 2) (Cn := RX7) (T := TX7) (N := 14) (by decide +kernel) rfl rfl (by decide +kernel) (by decide +kernel) (fk_in3 (List.mem_of_getElem? (i := 3) rfl)) rfl (by decide +kernel) ?_
  refine kr_aload (n := 0) (by decide +kernel) rfl ?_
  refine kr_sipush (n := 4001) (by decide +kernel) (by decide +kernel) ?_
  refine kr_newa (at0 := .int) (t := 0) (N := 4001) (ty := .int) (by decide +kernel) rfl (Or.inl ⟨rfl, rfl⟩) (fk_in1 (List.mem_of_getElem? (i := 109) rfl)) (by decide +kernel) (by decide +kernel) (Nat.le_of_ble_eq_true rfl) (by decide +kernel) (by decide +kernel) ?_
  refine kr_put (idx := 25) (slot := 5) (v := .ref 3) (Cn := RX7) (T := TX7) (N := 14) (by decide +kernel) rfl rfl (by decide +kernel) (by decide +kernel) (fk_in3 (List.mem_of_getElem? (i := 4) rfl)) rfl (by decide +kernel) ?_
  refine kr_aload (n := 0) (by decide +kernel) rfl ?_
  refine kr_sipush (n := 4001) (by decide +kernel) (by decide +kernel) ?_
  refine kr_newa (at0 := .long) (t := 1) (N := 4001) (ty := .long) (by decide +kernel) rfl (Or.inr (Or.inl ⟨rfl, rfl⟩)) (fk_in1 (List.mem_of_getElem? (i := 108) rfl)) (by decide +kernel) (by decide +kernel) (Nat.le_of_ble_eq_true rfl) (by decide +kernel) (by decide +kernel) ?_
  refine kr_put (idx := 28) (slot := 6) (v := .ref 4) (Cn := RX7) (T := TX7) (N := 14) (by decide +kernel) rfl rfl (by decide +kernel) (by decide +kernel) (fk_in3 (List.mem_of_getElem? (i := 5) rfl)) rfl (by decide +kernel) ?_
  exact kr_ret (by decide +kernel) rfl (by decide +kernel) (by decide +kernel) (by decide +kernel)
def kf_0 : List Value := [.null, .ref 1, .int (Int32.ofInt 0), .ref 2, .ref 3, .int (Int32.ofInt 0), .ref 4, .int (Int32.ofInt 0), .int (Int32.ofInt 0)]
def ka_0 : List kcE := [.inl (0, 2000), .inl (1, 100), .inl (0, 100), .inl (0, 40)]
set_option maxRecDepth 100000 in
set_option maxHeartbeats 8000000 in
theorem kt_0 {d : Nat} : Kt (d + 1) 11 0 kf_0 ka_0 := by
  refine Kt.of fk_q11 rfl rfl ?_
  refine kr_aload (n := 0) (by decide +kernel) rfl ?_
  refine kr_obj (idx := 1) (by decide +kernel) (fk_in3 (List.mem_of_getElem? (i := 47) rfl)) (fk_in1 (List.mem_of_getElem? (i := 30) rfl)) (fk_in1 (List.mem_of_getElem? (i := 31) rfl)) ?_
  refine kr_aload (n := 0) (by decide +kernel) rfl ?_
  refine kr_null (by decide +kernel) ?_
  refine kr_put (idx := 7) (slot := 0) (v := .null) (Cn := RX0) (T := TX0) (N := 9) (by decide +kernel) rfl rfl (by decide +kernel) (by decide +kernel) (fk_in3 (List.mem_of_getElem? (i := 48) rfl)) rfl (by decide +kernel) ?_
  refine kr_aload (n := 0) (by decide +kernel) rfl ?_
  refine kr_sipush (n := 2000) (by decide +kernel) (by decide +kernel) ?_
  refine kr_newa (at0 := .int) (t := 0) (N := 2000) (ty := .int) (by decide +kernel) rfl (Or.inl ⟨rfl, rfl⟩) (fk_in1 (List.mem_of_getElem? (i := 109) rfl)) (by decide +kernel) (by decide +kernel) (Nat.le_of_ble_eq_true rfl) (by decide +kernel) (by decide +kernel) ?_
  refine kr_put (idx := 13) (slot := 1) (v := .ref 1) (Cn := RX0) (T := TX0) (N := 9) (by decide +kernel) rfl rfl (by decide +kernel) (by decide +kernel) (fk_in3 (List.mem_of_getElem? (i := 49) rfl)) rfl (by decide +kernel) ?_
  refine kr_aload (n := 0) (by decide +kernel) rfl ?_
  refine kr_bipush (n := 100) (by decide +kernel) (by decide +kernel) ?_
  refine kr_newa (at0 := .long) (t := 1) (N := 100) (ty := .long) (by decide +kernel) rfl (Or.inr (Or.inl ⟨rfl, rfl⟩)) (fk_in1 (List.mem_of_getElem? (i := 108) rfl)) (by decide +kernel) (by decide +kernel) (Nat.le_of_ble_eq_true rfl) (by decide +kernel) (by decide +kernel) ?_
  refine kr_put (idx := 17) (slot := 3) (v := .ref 2) (Cn := RX0) (T := TX0) (N := 9) (by decide +kernel) rfl rfl (by decide +kernel) (by decide +kernel) (fk_in3 (List.mem_of_getElem? (i := 51) rfl)) rfl (by decide +kernel) ?_
  refine kr_aload (n := 0) (by decide +kernel) rfl ?_
  refine kr_bipush (n := 100) (by decide +kernel) (by decide +kernel) ?_
  refine kr_newa (at0 := .int) (t := 0) (N := 100) (ty := .int) (by decide +kernel) rfl (Or.inl ⟨rfl, rfl⟩) (fk_in1 (List.mem_of_getElem? (i := 109) rfl)) (by decide +kernel) (by decide +kernel) (Nat.le_of_ble_eq_true rfl) (by decide +kernel) (by decide +kernel) ?_
  refine kr_put (idx := 21) (slot := 4) (v := .ref 3) (Cn := RX0) (T := TX0) (N := 9) (by decide +kernel) rfl rfl (by decide +kernel) (by decide +kernel) (fk_in3 (List.mem_of_getElem? (i := 52) rfl)) rfl (by decide +kernel) ?_
  refine kr_aload (n := 0) (by decide +kernel) rfl ?_
  refine kr_bipush (n := 40) (by decide +kernel) (by decide +kernel) ?_
  refine kr_newa (at0 := .int) (t := 0) (N := 40) (ty := .int) (by decide +kernel) rfl (Or.inl ⟨rfl, rfl⟩) (fk_in1 (List.mem_of_getElem? (i := 109) rfl)) (by decide +kernel) (by decide +kernel) (Nat.le_of_ble_eq_true rfl) (by decide +kernel) (by decide +kernel) ?_
  refine kr_put (idx := 24) (slot := 6) (v := .ref 4) (Cn := RX0) (T := TX0) (N := 9) (by decide +kernel) rfl rfl (by decide +kernel) (by decide +kernel) (fk_in3 (List.mem_of_getElem? (i := 54) rfl)) rfl (by decide +kernel) ?_
  exact kr_ret (by decide +kernel) rfl (by decide +kernel) (by decide +kernel) (by decide +kernel)
def kf_9 : List Value := [.null, .ref 1, .ref 2, .ref 3, .int (Int32.ofInt 0), .ref 4, .int (Int32.ofInt 0), .int (Int32.ofInt 0), .int (Int32.ofInt 0), .int (Int32.ofInt 0), .int (Int32.ofInt 0), .int (Int32.ofInt 0), .int (Int32.ofInt 0), .int (Int32.ofInt 0)]
def ka_9 : List kcE := [.inl (0, 501), .inl (0, 501), .inl (0, 12000), .inl (0, 120)]
set_option maxRecDepth 100000 in
set_option maxHeartbeats 8000000 in
theorem kt_9 {d : Nat} : Kt (d + 1) 12 9 kf_9 ka_9 := by
  refine Kt.of fk_q12 rfl rfl ?_
  refine kr_aload (n := 0) (by decide +kernel) rfl ?_
  refine kr_obj (idx := 1) (by decide +kernel) (fk_in3 (List.mem_of_getElem? (i := 81) rfl)) (fk_in1 (List.mem_of_getElem? (i := 30) rfl)) (fk_in1 (List.mem_of_getElem? (i := 31) rfl)) ?_
  refine kr_aload (n := 0) (by decide +kernel) rfl ?_
  refine kr_null (by decide +kernel) ?_
  refine kr_put (idx := 7) (slot := 0) (v := .null) (Cn := RX9) (T := TX9) (N := 14) (by decide +kernel) rfl rfl (by decide +kernel) (by decide +kernel) (fk_in3 (List.mem_of_getElem? (i := 82) rfl)) rfl (by decide +kernel) ?_
  refine kr_aload (n := 0) (by decide +kernel) rfl ?_
  refine kr_sipush (n := 501) (by decide +kernel) (by decide +kernel) ?_
  refine kr_newa (at0 := .int) (t := 0) (N := 501) (ty := .int) (by decide +kernel) rfl (Or.inl ⟨rfl, rfl⟩) (fk_in1 (List.mem_of_getElem? (i := 109) rfl)) (by decide +kernel) (by decide +kernel) (Nat.le_of_ble_eq_true rfl) (by decide +kernel) (by decide +kernel) ?_
  refine kr_put (idx := 13) (slot := 1) (v := .ref 1) (Cn := RX9) (T := TX9) (N := 14) (by decide +kernel) rfl rfl (by decide +kernel) (by decide +kernel) (fk_in3 (List.mem_of_getElem? (i := 83) rfl)) rfl (by decide +kernel) ?_
  refine kr_aload (n := 0) (by decide +kernel) rfl ?_
  refine kr_sipush (n := 501) (by decide +kernel) (by decide +kernel) ?_
  refine kr_newa (at0 := .int) (t := 0) (N := 501) (ty := .int) (by decide +kernel) rfl (Or.inl ⟨rfl, rfl⟩) (fk_in1 (List.mem_of_getElem? (i := 109) rfl)) (by decide +kernel) (by decide +kernel) (Nat.le_of_ble_eq_true rfl) (by decide +kernel) (by decide +kernel) ?_
  refine kr_put (idx := 17) (slot := 2) (v := .ref 2) (Cn := RX9) (T := TX9) (N := 14) (by decide +kernel) rfl rfl (by decide +kernel) (by decide +kernel) (fk_in3 (List.mem_of_getElem? (i := 84) rfl)) rfl (by decide +kernel) ?_
  refine kr_aload (n := 0) (by decide +kernel) rfl ?_
  refine kr_sipush (n := 12000) (by decide +kernel) (by decide +kernel) ?_
  refine kr_newa (at0 := .int) (t := 0) (N := 12000) (ty := .int) (by decide +kernel) rfl (Or.inl ⟨rfl, rfl⟩) (fk_in1 (List.mem_of_getElem? (i := 109) rfl)) (by decide +kernel) (by decide +kernel) (Nat.le_of_ble_eq_true rfl) (by decide +kernel) (by decide +kernel) ?_
  refine kr_put (idx := 20) (slot := 3) (v := .ref 3) (Cn := RX9) (T := TX9) (N := 14) (by decide +kernel) rfl rfl (by decide +kernel) (by decide +kernel) (fk_in3 (List.mem_of_getElem? (i := 85) rfl)) rfl (by decide +kernel) ?_
  refine kr_aload (n := 0) (by decide +kernel) rfl ?_
  refine kr_bipush (n := 120) (by decide +kernel) (by decide +kernel) ?_
  refine kr_newa (at0 := .int) (t := 0) (N := 120) (ty := .int) (by decide +kernel) rfl (Or.inl ⟨rfl, rfl⟩) (fk_in1 (List.mem_of_getElem? (i := 109) rfl)) (by decide +kernel) (by decide +kernel) (Nat.le_of_ble_eq_true rfl) (by decide +kernel) (by decide +kernel) ?_
  refine kr_put (idx := 23) (slot := 5) (v := .ref 4) (Cn := RX9) (T := TX9) (N := 14) (by decide +kernel) rfl rfl (by decide +kernel) (by decide +kernel) (fk_in3 (List.mem_of_getElem? (i := 87) rfl)) rfl (by decide +kernel) ?_
  refine kr_aload (n := 0) (by decide +kernel) rfl ?_
  refine kr_iconst (n := 0) (by decide +kernel) ?_
  refine kr_put (idx := 26) (slot := 9) (v := .int (Int32.ofInt 0)) (Cn := RX9) (T := TX9) (N := 14) (by decide +kernel) rfl rfl (by decide +kernel) (by decide +kernel) (fk_in3 (List.mem_of_getElem? (i := 91) rfl)) rfl (by decide +kernel) ?_
  refine kr_aload (n := 0) (by decide +kernel) rfl ?_
  refine kr_iconst (n := 0) (by decide +kernel) ?_
  refine kr_put (idx := 30) (slot := 10) (v := .int (Int32.ofInt 0)) (Cn := RX9) (T := TX9) (N := 14) (by decide +kernel) rfl rfl (by decide +kernel) (by decide +kernel) (fk_in3 (List.mem_of_getElem? (i := 93) rfl)) rfl (by decide +kernel) ?_
  refine kr_aload (n := 0) (by decide +kernel) rfl ?_
  refine kr_iconst (n := 0) (by decide +kernel) ?_
  refine kr_put (idx := 33) (slot := 11) (v := .int (Int32.ofInt 0)) (Cn := RX9) (T := TX9) (N := 14) (by decide +kernel) rfl rfl (by decide +kernel) (by decide +kernel) (fk_in3 (List.mem_of_getElem? (i := 95) rfl)) rfl (by decide +kernel) ?_
  refine kr_aload (n := 0) (by decide +kernel) rfl ?_
  refine kr_iconst (n := 0) (by decide +kernel) ?_
  refine kr_put (idx := 36) (slot := 12) (v := .int (Int32.ofInt 0)) (Cn := RX9) (T := TX9) (N := 14) (by decide +kernel) rfl rfl (by decide +kernel) (by decide +kernel) (fk_in3 (List.mem_of_getElem? (i := 97) rfl)) rfl (by decide +kernel) ?_
  refine kr_aload (n := 0) (by decide +kernel) rfl ?_
  refine kr_iconst (n := 0) (by decide +kernel) ?_
  refine kr_put (idx := 39) (slot := 13) (v := .int (Int32.ofInt 0)) (Cn := RX9) (T := TX9) (N := 14) (by decide +kernel) rfl rfl (by decide +kernel) (by decide +kernel) (fk_in3 (List.mem_of_getElem? (i := 99) rfl)) rfl (by decide +kernel) ?_
  exact kr_ret (by decide +kernel) rfl (by decide +kernel) (by decide +kernel) (by decide +kernel)
def kp_11_1 : List kcE := [.inl (2, 4000), .inl (1, 8)]
def kp_11_2 : List kcE := [.inl (2, 4000), .inl (1, 8), .inr (6, [.ref 4, .int (Int32.ofInt 0), .ref 5, .int (Int32.ofInt 0), .ref 6, .int (Int32.ofInt 0), .ref 7, .int (Int32.ofInt 0), .ref 8, .int (Int32.ofInt 0), .ref 9, .ref 10, .int (Int32.ofInt 0), .ref 11, .int (Int32.ofInt 0), .ref 12, .ref 13, .int (Int32.ofInt 0), .ref 14, .ref 15]), .inl (2, 4000), .inl (0, 180), .inl (0, 60), .inl (1, 2), .inl (1, 2), .inl (0, 180), .inl (1, 60), .inl (0, 240), .inl (0, 180), .inl (1, 60), .inl (0, 4000), .inr (2, [.int (Int32.ofInt 0), .ref 16, .ref 17, .ref 18, .ref 19, .int (Int32.ofInt 0), .ref 20, .ref 21, .ref 22, .int (Int32.ofInt 0), .ref 23]), .inl (0, 60), .inl (0, 60), .inl (0, 60), .inl (2, 3000), .inl (0, 4000), .inl (1, 4000), .inl (0, 4000), .inl (0, 12000)]
def kp_11_3 : List kcE := [.inl (2, 4000), .inl (1, 8), .inr (6, [.ref 4, .int (Int32.ofInt 0), .ref 5, .int (Int32.ofInt 0), .ref 6, .int (Int32.ofInt 0), .ref 7, .int (Int32.ofInt 0), .ref 8, .int (Int32.ofInt 0), .ref 9, .ref 10, .int (Int32.ofInt 0), .ref 11, .int (Int32.ofInt 0), .ref 12, .ref 13, .int (Int32.ofInt 0), .ref 14, .ref 15]), .inl (2, 4000), .inl (0, 180), .inl (0, 60), .inl (1, 2), .inl (1, 2), .inl (0, 180), .inl (1, 60), .inl (0, 240), .inl (0, 180), .inl (1, 60), .inl (0, 4000), .inr (2, [.int (Int32.ofInt 0), .ref 16, .ref 17, .ref 18, .ref 19, .int (Int32.ofInt 0), .ref 20, .ref 21, .ref 22, .int (Int32.ofInt 0), .ref 23]), .inl (0, 60), .inl (0, 60), .inl (0, 60), .inl (2, 3000), .inl (0, 4000), .inl (1, 4000), .inl (0, 4000), .inl (0, 12000), .inr (6, [.ref 25, .int (Int32.ofInt 0), .ref 26, .int (Int32.ofInt 0), .ref 27, .int (Int32.ofInt 0), .ref 28, .int (Int32.ofInt 0), .ref 29, .int (Int32.ofInt 0), .ref 30, .ref 31, .int (Int32.ofInt 0), .ref 32, .int (Int32.ofInt 0), .ref 33, .ref 34, .int (Int32.ofInt 0), .ref 35, .ref 36]), .inl (2, 4000), .inl (0, 180), .inl (0, 60), .inl (1, 2), .inl (1, 2), .inl (0, 180), .inl (1, 60), .inl (0, 240), .inl (0, 180), .inl (1, 60), .inl (0, 4000), .inr (2, [.int (Int32.ofInt 0), .ref 37, .ref 38, .ref 39, .ref 40, .int (Int32.ofInt 0), .ref 41, .ref 42, .ref 43, .int (Int32.ofInt 0), .ref 44]), .inl (0, 60), .inl (0, 60), .inl (0, 60), .inl (2, 3000), .inl (0, 4000), .inl (1, 4000), .inl (0, 4000), .inl (0, 12000)]
def kp_11_4 : List kcE := [.inl (2, 4000), .inl (1, 8), .inr (6, [.ref 4, .int (Int32.ofInt 0), .ref 5, .int (Int32.ofInt 0), .ref 6, .int (Int32.ofInt 0), .ref 7, .int (Int32.ofInt 0), .ref 8, .int (Int32.ofInt 0), .ref 9, .ref 10, .int (Int32.ofInt 0), .ref 11, .int (Int32.ofInt 0), .ref 12, .ref 13, .int (Int32.ofInt 0), .ref 14, .ref 15]), .inl (2, 4000), .inl (0, 180), .inl (0, 60), .inl (1, 2), .inl (1, 2), .inl (0, 180), .inl (1, 60), .inl (0, 240), .inl (0, 180), .inl (1, 60), .inl (0, 4000), .inr (2, [.int (Int32.ofInt 0), .ref 16, .ref 17, .ref 18, .ref 19, .int (Int32.ofInt 0), .ref 20, .ref 21, .ref 22, .int (Int32.ofInt 0), .ref 23]), .inl (0, 60), .inl (0, 60), .inl (0, 60), .inl (2, 3000), .inl (0, 4000), .inl (1, 4000), .inl (0, 4000), .inl (0, 12000), .inr (6, [.ref 25, .int (Int32.ofInt 0), .ref 26, .int (Int32.ofInt 0), .ref 27, .int (Int32.ofInt 0), .ref 28, .int (Int32.ofInt 0), .ref 29, .int (Int32.ofInt 0), .ref 30, .ref 31, .int (Int32.ofInt 0), .ref 32, .int (Int32.ofInt 0), .ref 33, .ref 34, .int (Int32.ofInt 0), .ref 35, .ref 36]), .inl (2, 4000), .inl (0, 180), .inl (0, 60), .inl (1, 2), .inl (1, 2), .inl (0, 180), .inl (1, 60), .inl (0, 240), .inl (0, 180), .inl (1, 60), .inl (0, 4000), .inr (2, [.int (Int32.ofInt 0), .ref 37, .ref 38, .ref 39, .ref 40, .int (Int32.ofInt 0), .ref 41, .ref 42, .ref 43, .int (Int32.ofInt 0), .ref 44]), .inl (0, 60), .inl (0, 60), .inl (0, 60), .inl (2, 3000), .inl (0, 4000), .inl (1, 4000), .inl (0, 4000), .inl (0, 12000), .inr (5, [.ref 46, .ref 48, .int (Int32.ofInt 0)]), .inr (10, [.ref 47, .int (Int32.ofInt 0), .int (Int32.ofInt 0), .int (Int32.ofInt 0), .int (Int32.ofInt (-1))]), .inl (2, 0), .inr (1, [.ref 49, .int (Int32.ofInt 0)]), .inl (0, 20)]
def kp_11_5 : List kcE := [.inl (2, 4000), .inl (1, 8), .inr (6, [.ref 4, .int (Int32.ofInt 0), .ref 5, .int (Int32.ofInt 0), .ref 6, .int (Int32.ofInt 0), .ref 7, .int (Int32.ofInt 0), .ref 8, .int (Int32.ofInt 0), .ref 9, .ref 10, .int (Int32.ofInt 0), .ref 11, .int (Int32.ofInt 0), .ref 12, .ref 13, .int (Int32.ofInt 0), .ref 14, .ref 15]), .inl (2, 4000), .inl (0, 180), .inl (0, 60), .inl (1, 2), .inl (1, 2), .inl (0, 180), .inl (1, 60), .inl (0, 240), .inl (0, 180), .inl (1, 60), .inl (0, 4000), .inr (2, [.int (Int32.ofInt 0), .ref 16, .ref 17, .ref 18, .ref 19, .int (Int32.ofInt 0), .ref 20, .ref 21, .ref 22, .int (Int32.ofInt 0), .ref 23]), .inl (0, 60), .inl (0, 60), .inl (0, 60), .inl (2, 3000), .inl (0, 4000), .inl (1, 4000), .inl (0, 4000), .inl (0, 12000), .inr (6, [.ref 25, .int (Int32.ofInt 0), .ref 26, .int (Int32.ofInt 0), .ref 27, .int (Int32.ofInt 0), .ref 28, .int (Int32.ofInt 0), .ref 29, .int (Int32.ofInt 0), .ref 30, .ref 31, .int (Int32.ofInt 0), .ref 32, .int (Int32.ofInt 0), .ref 33, .ref 34, .int (Int32.ofInt 0), .ref 35, .ref 36]), .inl (2, 4000), .inl (0, 180), .inl (0, 60), .inl (1, 2), .inl (1, 2), .inl (0, 180), .inl (1, 60), .inl (0, 240), .inl (0, 180), .inl (1, 60), .inl (0, 4000), .inr (2, [.int (Int32.ofInt 0), .ref 37, .ref 38, .ref 39, .ref 40, .int (Int32.ofInt 0), .ref 41, .ref 42, .ref 43, .int (Int32.ofInt 0), .ref 44]), .inl (0, 60), .inl (0, 60), .inl (0, 60), .inl (2, 3000), .inl (0, 4000), .inl (1, 4000), .inl (0, 4000), .inl (0, 12000), .inr (5, [.ref 46, .ref 48, .int (Int32.ofInt 0)]), .inr (10, [.ref 47, .int (Int32.ofInt 0), .int (Int32.ofInt 0), .int (Int32.ofInt 0), .int (Int32.ofInt (-1))]), .inl (2, 0), .inr (1, [.ref 49, .int (Int32.ofInt 0)]), .inl (0, 20), .inr (3, [.null, .null, .int (Int32.ofInt 0), .int (Int32.ofInt 0), .ref 51, .int (Int32.ofInt 0), .ref 52, .ref 53, .ref 54, .ref 55, .int (Int32.ofInt 0)]), .inl (0, 4100), .inl (0, 22), .inl (0, 22), .inl (0, 22), .inl (3, 22)]
def kp_11_6 : List kcE := [.inl (2, 4000), .inl (1, 8), .inr (6, [.ref 4, .int (Int32.ofInt 0), .ref 5, .int (Int32.ofInt 0), .ref 6, .int (Int32.ofInt 0), .ref 7, .int (Int32.ofInt 0), .ref 8, .int (Int32.ofInt 0), .ref 9, .ref 10, .int (Int32.ofInt 0), .ref 11, .int (Int32.ofInt 0), .ref 12, .ref 13, .int (Int32.ofInt 0), .ref 14, .ref 15]), .inl (2, 4000), .inl (0, 180), .inl (0, 60), .inl (1, 2), .inl (1, 2), .inl (0, 180), .inl (1, 60), .inl (0, 240), .inl (0, 180), .inl (1, 60), .inl (0, 4000), .inr (2, [.int (Int32.ofInt 0), .ref 16, .ref 17, .ref 18, .ref 19, .int (Int32.ofInt 0), .ref 20, .ref 21, .ref 22, .int (Int32.ofInt 0), .ref 23]), .inl (0, 60), .inl (0, 60), .inl (0, 60), .inl (2, 3000), .inl (0, 4000), .inl (1, 4000), .inl (0, 4000), .inl (0, 12000), .inr (6, [.ref 25, .int (Int32.ofInt 0), .ref 26, .int (Int32.ofInt 0), .ref 27, .int (Int32.ofInt 0), .ref 28, .int (Int32.ofInt 0), .ref 29, .int (Int32.ofInt 0), .ref 30, .ref 31, .int (Int32.ofInt 0), .ref 32, .int (Int32.ofInt 0), .ref 33, .ref 34, .int (Int32.ofInt 0), .ref 35, .ref 36]), .inl (2, 4000), .inl (0, 180), .inl (0, 60), .inl (1, 2), .inl (1, 2), .inl (0, 180), .inl (1, 60), .inl (0, 240), .inl (0, 180), .inl (1, 60), .inl (0, 4000), .inr (2, [.int (Int32.ofInt 0), .ref 37, .ref 38, .ref 39, .ref 40, .int (Int32.ofInt 0), .ref 41, .ref 42, .ref 43, .int (Int32.ofInt 0), .ref 44]), .inl (0, 60), .inl (0, 60), .inl (0, 60), .inl (2, 3000), .inl (0, 4000), .inl (1, 4000), .inl (0, 4000), .inl (0, 12000), .inr (5, [.ref 46, .ref 48, .int (Int32.ofInt 0)]), .inr (10, [.ref 47, .int (Int32.ofInt 0), .int (Int32.ofInt 0), .int (Int32.ofInt 0), .int (Int32.ofInt (-1))]), .inl (2, 0), .inr (1, [.ref 49, .int (Int32.ofInt 0)]), .inl (0, 20), .inr (3, [.null, .null, .int (Int32.ofInt 0), .int (Int32.ofInt 0), .ref 51, .int (Int32.ofInt 0), .ref 52, .ref 53, .ref 54, .ref 55, .int (Int32.ofInt 0)]), .inl (0, 4100), .inl (0, 22), .inl (0, 22), .inl (0, 22), .inl (3, 22), .inr (4, [.null, .null, .ref 57, .ref 58, .int (Int32.ofInt 0), .ref 59, .int (Int32.ofInt 0), .ref 60, .int (Int32.ofInt 0), .ref 61, .int (Int32.ofInt 0), .int (Int32.ofInt 0), .int (Int32.ofInt 0), .int (Int32.ofInt 0), .int (Int32.ofInt 0), .int (Int32.ofInt 0), .long (Int64.ofNat 0)]), .inl (1, 60), .inl (1, 16384), .inl (0, 100), .inl (1, 24000), .inl (0, 192)]
def kp_11_7 : List kcE := [.inl (2, 4000), .inl (1, 8), .inr (6, [.ref 4, .int (Int32.ofInt 0), .ref 5, .int (Int32.ofInt 0), .ref 6, .int (Int32.ofInt 0), .ref 7, .int (Int32.ofInt 0), .ref 8, .int (Int32.ofInt 0), .ref 9, .ref 10, .int (Int32.ofInt 0), .ref 11, .int (Int32.ofInt 0), .ref 12, .ref 13, .int (Int32.ofInt 0), .ref 14, .ref 15]), .inl (2, 4000), .inl (0, 180), .inl (0, 60), .inl (1, 2), .inl (1, 2), .inl (0, 180), .inl (1, 60), .inl (0, 240), .inl (0, 180), .inl (1, 60), .inl (0, 4000), .inr (2, [.int (Int32.ofInt 0), .ref 16, .ref 17, .ref 18, .ref 19, .int (Int32.ofInt 0), .ref 20, .ref 21, .ref 22, .int (Int32.ofInt 0), .ref 23]), .inl (0, 60), .inl (0, 60), .inl (0, 60), .inl (2, 3000), .inl (0, 4000), .inl (1, 4000), .inl (0, 4000), .inl (0, 12000), .inr (6, [.ref 25, .int (Int32.ofInt 0), .ref 26, .int (Int32.ofInt 0), .ref 27, .int (Int32.ofInt 0), .ref 28, .int (Int32.ofInt 0), .ref 29, .int (Int32.ofInt 0), .ref 30, .ref 31, .int (Int32.ofInt 0), .ref 32, .int (Int32.ofInt 0), .ref 33, .ref 34, .int (Int32.ofInt 0), .ref 35, .ref 36]), .inl (2, 4000), .inl (0, 180), .inl (0, 60), .inl (1, 2), .inl (1, 2), .inl (0, 180), .inl (1, 60), .inl (0, 240), .inl (0, 180), .inl (1, 60), .inl (0, 4000), .inr (2, [.int (Int32.ofInt 0), .ref 37, .ref 38, .ref 39, .ref 40, .int (Int32.ofInt 0), .ref 41, .ref 42, .ref 43, .int (Int32.ofInt 0), .ref 44]), .inl (0, 60), .inl (0, 60), .inl (0, 60), .inl (2, 3000), .inl (0, 4000), .inl (1, 4000), .inl (0, 4000), .inl (0, 12000), .inr (5, [.ref 46, .ref 48, .int (Int32.ofInt 0)]), .inr (10, [.ref 47, .int (Int32.ofInt 0), .int (Int32.ofInt 0), .int (Int32.ofInt 0), .int (Int32.ofInt (-1))]), .inl (2, 0), .inr (1, [.ref 49, .int (Int32.ofInt 0)]), .inl (0, 20), .inr (3, [.null, .null, .int (Int32.ofInt 0), .int (Int32.ofInt 0), .ref 51, .int (Int32.ofInt 0), .ref 52, .ref 53, .ref 54, .ref 55, .int (Int32.ofInt 0)]), .inl (0, 4100), .inl (0, 22), .inl (0, 22), .inl (0, 22), .inl (3, 22), .inr (4, [.null, .null, .ref 57, .ref 58, .int (Int32.ofInt 0), .ref 59, .int (Int32.ofInt 0), .ref 60, .int (Int32.ofInt 0), .ref 61, .int (Int32.ofInt 0), .int (Int32.ofInt 0), .int (Int32.ofInt 0), .int (Int32.ofInt 0), .int (Int32.ofInt 0), .int (Int32.ofInt 0), .long (Int64.ofNat 0)]), .inl (1, 60), .inl (1, 16384), .inl (0, 100), .inl (1, 24000), .inl (0, 192), .inr (8, [.int (Int32.ofInt 0), .ref 63, .ref 64, .ref 65, .ref 66, .ref 67, .ref 68, .ref 69, .ref 70, .int (Int32.ofInt 0), .ref 71, .ref 72, .ref 73, .ref 74]), .inl (1, 20), .inl (0, 20), .inl (0, 20), .inl (0, 20), .inl (0, 20), .inl (1, 80), .inl (0, 80), .inl (0, 80), .inl (0, 3000), .inl (1, 3000), .inl (0, 3000), .inl (0, 3000)]
def kp_11_8 : List kcE := [.inl (2, 4000), .inl (1, 8), .inr (6, [.ref 4, .int (Int32.ofInt 0), .ref 5, .int (Int32.ofInt 0), .ref 6, .int (Int32.ofInt 0), .ref 7, .int (Int32.ofInt 0), .ref 8, .int (Int32.ofInt 0), .ref 9, .ref 10, .int (Int32.ofInt 0), .ref 11, .int (Int32.ofInt 0), .ref 12, .ref 13, .int (Int32.ofInt 0), .ref 14, .ref 15]), .inl (2, 4000), .inl (0, 180), .inl (0, 60), .inl (1, 2), .inl (1, 2), .inl (0, 180), .inl (1, 60), .inl (0, 240), .inl (0, 180), .inl (1, 60), .inl (0, 4000), .inr (2, [.int (Int32.ofInt 0), .ref 16, .ref 17, .ref 18, .ref 19, .int (Int32.ofInt 0), .ref 20, .ref 21, .ref 22, .int (Int32.ofInt 0), .ref 23]), .inl (0, 60), .inl (0, 60), .inl (0, 60), .inl (2, 3000), .inl (0, 4000), .inl (1, 4000), .inl (0, 4000), .inl (0, 12000), .inr (6, [.ref 25, .int (Int32.ofInt 0), .ref 26, .int (Int32.ofInt 0), .ref 27, .int (Int32.ofInt 0), .ref 28, .int (Int32.ofInt 0), .ref 29, .int (Int32.ofInt 0), .ref 30, .ref 31, .int (Int32.ofInt 0), .ref 32, .int (Int32.ofInt 0), .ref 33, .ref 34, .int (Int32.ofInt 0), .ref 35, .ref 36]), .inl (2, 4000), .inl (0, 180), .inl (0, 60), .inl (1, 2), .inl (1, 2), .inl (0, 180), .inl (1, 60), .inl (0, 240), .inl (0, 180), .inl (1, 60), .inl (0, 4000), .inr (2, [.int (Int32.ofInt 0), .ref 37, .ref 38, .ref 39, .ref 40, .int (Int32.ofInt 0), .ref 41, .ref 42, .ref 43, .int (Int32.ofInt 0), .ref 44]), .inl (0, 60), .inl (0, 60), .inl (0, 60), .inl (2, 3000), .inl (0, 4000), .inl (1, 4000), .inl (0, 4000), .inl (0, 12000), .inr (5, [.ref 46, .ref 48, .int (Int32.ofInt 0)]), .inr (10, [.ref 47, .int (Int32.ofInt 0), .int (Int32.ofInt 0), .int (Int32.ofInt 0), .int (Int32.ofInt (-1))]), .inl (2, 0), .inr (1, [.ref 49, .int (Int32.ofInt 0)]), .inl (0, 20), .inr (3, [.null, .null, .int (Int32.ofInt 0), .int (Int32.ofInt 0), .ref 51, .int (Int32.ofInt 0), .ref 52, .ref 53, .ref 54, .ref 55, .int (Int32.ofInt 0)]), .inl (0, 4100), .inl (0, 22), .inl (0, 22), .inl (0, 22), .inl (3, 22), .inr (4, [.null, .null, .ref 57, .ref 58, .int (Int32.ofInt 0), .ref 59, .int (Int32.ofInt 0), .ref 60, .int (Int32.ofInt 0), .ref 61, .int (Int32.ofInt 0), .int (Int32.ofInt 0), .int (Int32.ofInt 0), .int (Int32.ofInt 0), .int (Int32.ofInt 0), .int (Int32.ofInt 0), .long (Int64.ofNat 0)]), .inl (1, 60), .inl (1, 16384), .inl (0, 100), .inl (1, 24000), .inl (0, 192), .inr (8, [.int (Int32.ofInt 0), .ref 63, .ref 64, .ref 65, .ref 66, .ref 67, .ref 68, .ref 69, .ref 70, .int (Int32.ofInt 0), .ref 71, .ref 72, .ref 73, .ref 74]), .inl (1, 20), .inl (0, 20), .inl (0, 20), .inl (0, 20), .inl (0, 20), .inl (1, 80), .inl (0, 80), .inl (0, 80), .inl (0, 3000), .inl (1, 3000), .inl (0, 3000), .inl (0, 3000), .inr (8, [.int (Int32.ofInt 0), .ref 76, .ref 77, .ref 78, .ref 79, .ref 80, .ref 81, .ref 82, .ref 83, .int (Int32.ofInt 0), .ref 84, .ref 85, .ref 86, .ref 87]), .inl (1, 20), .inl (0, 20), .inl (0, 20), .inl (0, 20), .inl (0, 20), .inl (1, 80), .inl (0, 80), .inl (0, 80), .inl (0, 3000), .inl (1, 3000), .inl (0, 3000), .inl (0, 3000)]
def kp_11_9 : List kcE := [.inl (2, 4000), .inl (1, 8), .inr (6, [.ref 4, .int (Int32.ofInt 0), .ref 5, .int (Int32.ofInt 0), .ref 6, .int (Int32.ofInt 0), .ref 7, .int (Int32.ofInt 0), .ref 8, .int (Int32.ofInt 0), .ref 9, .ref 10, .int (Int32.ofInt 0), .ref 11, .int (Int32.ofInt 0), .ref 12, .ref 13, .int (Int32.ofInt 0), .ref 14, .ref 15]), .inl (2, 4000), .inl (0, 180), .inl (0, 60), .inl (1, 2), .inl (1, 2), .inl (0, 180), .inl (1, 60), .inl (0, 240), .inl (0, 180), .inl (1, 60), .inl (0, 4000), .inr (2, [.int (Int32.ofInt 0), .ref 16, .ref 17, .ref 18, .ref 19, .int (Int32.ofInt 0), .ref 20, .ref 21, .ref 22, .int (Int32.ofInt 0), .ref 23]), .inl (0, 60), .inl (0, 60), .inl (0, 60), .inl (2, 3000), .inl (0, 4000), .inl (1, 4000), .inl (0, 4000), .inl (0, 12000), .inr (6, [.ref 25, .int (Int32.ofInt 0), .ref 26, .int (Int32.ofInt 0), .ref 27, .int (Int32.ofInt 0), .ref 28, .int (Int32.ofInt 0), .ref 29, .int (Int32.ofInt 0), .ref 30, .ref 31, .int (Int32.ofInt 0), .ref 32, .int (Int32.ofInt 0), .ref 33, .ref 34, .int (Int32.ofInt 0), .ref 35, .ref 36]), .inl (2, 4000), .inl (0, 180), .inl (0, 60), .inl (1, 2), .inl (1, 2), .inl (0, 180), .inl (1, 60), .inl (0, 240), .inl (0, 180), .inl (1, 60), .inl (0, 4000), .inr (2, [.int (Int32.ofInt 0), .ref 37, .ref 38, .ref 39, .ref 40, .int (Int32.ofInt 0), .ref 41, .ref 42, .ref 43, .int (Int32.ofInt 0), .ref 44]), .inl (0, 60), .inl (0, 60), .inl (0, 60), .inl (2, 3000), .inl (0, 4000), .inl (1, 4000), .inl (0, 4000), .inl (0, 12000), .inr (5, [.ref 46, .ref 48, .int (Int32.ofInt 0)]), .inr (10, [.ref 47, .int (Int32.ofInt 0), .int (Int32.ofInt 0), .int (Int32.ofInt 0), .int (Int32.ofInt (-1))]), .inl (2, 0), .inr (1, [.ref 49, .int (Int32.ofInt 0)]), .inl (0, 20), .inr (3, [.null, .null, .int (Int32.ofInt 0), .int (Int32.ofInt 0), .ref 51, .int (Int32.ofInt 0), .ref 52, .ref 53, .ref 54, .ref 55, .int (Int32.ofInt 0)]), .inl (0, 4100), .inl (0, 22), .inl (0, 22), .inl (0, 22), .inl (3, 22), .inr (4, [.null, .null, .ref 57, .ref 58, .int (Int32.ofInt 0), .ref 59, .int (Int32.ofInt 0), .ref 60, .int (Int32.ofInt 0), .ref 61, .int (Int32.ofInt 0), .int (Int32.ofInt 0), .int (Int32.ofInt 0), .int (Int32.ofInt 0), .int (Int32.ofInt 0), .int (Int32.ofInt 0), .long (Int64.ofNat 0)]), .inl (1, 60), .inl (1, 16384), .inl (0, 100), .inl (1, 24000), .inl (0, 192), .inr (8, [.int (Int32.ofInt 0), .ref 63, .ref 64, .ref 65, .ref 66, .ref 67, .ref 68, .ref 69, .ref 70, .int (Int32.ofInt 0), .ref 71, .ref 72, .ref 73, .ref 74]), .inl (1, 20), .inl (0, 20), .inl (0, 20), .inl (0, 20), .inl (0, 20), .inl (1, 80), .inl (0, 80), .inl (0, 80), .inl (0, 3000), .inl (1, 3000), .inl (0, 3000), .inl (0, 3000), .inr (8, [.int (Int32.ofInt 0), .ref 76, .ref 77, .ref 78, .ref 79, .ref 80, .ref 81, .ref 82, .ref 83, .int (Int32.ofInt 0), .ref 84, .ref 85, .ref 86, .ref 87]), .inl (1, 20), .inl (0, 20), .inl (0, 20), .inl (0, 20), .inl (0, 20), .inl (1, 80), .inl (0, 80), .inl (0, 80), .inl (0, 3000), .inl (1, 3000), .inl (0, 3000), .inl (0, 3000), .inr (7, [.null, .ref 89, .int (Int32.ofInt 0), .int (Int32.ofInt 0), .ref 90, .ref 91, .ref 92, .int (Int32.ofInt 0), .int (Int32.ofInt 0), .int (Int32.ofInt 0), .int (Int32.ofInt 0), .long (Int64.ofNat 0), .int (Int32.ofInt 0), .int (Int32.ofInt 0)]), .inl (2, 0), .inl (0, 4001), .inl (0, 4001), .inl (1, 4001)]
def kp_11_10 : List kcE := [.inl (2, 4000), .inl (1, 8), .inr (6, [.ref 4, .int (Int32.ofInt 0), .ref 5, .int (Int32.ofInt 0), .ref 6, .int (Int32.ofInt 0), .ref 7, .int (Int32.ofInt 0), .ref 8, .int (Int32.ofInt 0), .ref 9, .ref 10, .int (Int32.ofInt 0), .ref 11, .int (Int32.ofInt 0), .ref 12, .ref 13, .int (Int32.ofInt 0), .ref 14, .ref 15]), .inl (2, 4000), .inl (0, 180), .inl (0, 60), .inl (1, 2), .inl (1, 2), .inl (0, 180), .inl (1, 60), .inl (0, 240), .inl (0, 180), .inl (1, 60), .inl (0, 4000), .inr (2, [.int (Int32.ofInt 0), .ref 16, .ref 17, .ref 18, .ref 19, .int (Int32.ofInt 0), .ref 20, .ref 21, .ref 22, .int (Int32.ofInt 0), .ref 23]), .inl (0, 60), .inl (0, 60), .inl (0, 60), .inl (2, 3000), .inl (0, 4000), .inl (1, 4000), .inl (0, 4000), .inl (0, 12000), .inr (6, [.ref 25, .int (Int32.ofInt 0), .ref 26, .int (Int32.ofInt 0), .ref 27, .int (Int32.ofInt 0), .ref 28, .int (Int32.ofInt 0), .ref 29, .int (Int32.ofInt 0), .ref 30, .ref 31, .int (Int32.ofInt 0), .ref 32, .int (Int32.ofInt 0), .ref 33, .ref 34, .int (Int32.ofInt 0), .ref 35, .ref 36]), .inl (2, 4000), .inl (0, 180), .inl (0, 60), .inl (1, 2), .inl (1, 2), .inl (0, 180), .inl (1, 60), .inl (0, 240), .inl (0, 180), .inl (1, 60), .inl (0, 4000), .inr (2, [.int (Int32.ofInt 0), .ref 37, .ref 38, .ref 39, .ref 40, .int (Int32.ofInt 0), .ref 41, .ref 42, .ref 43, .int (Int32.ofInt 0), .ref 44]), .inl (0, 60), .inl (0, 60), .inl (0, 60), .inl (2, 3000), .inl (0, 4000), .inl (1, 4000), .inl (0, 4000), .inl (0, 12000), .inr (5, [.ref 46, .ref 48, .int (Int32.ofInt 0)]), .inr (10, [.ref 47, .int (Int32.ofInt 0), .int (Int32.ofInt 0), .int (Int32.ofInt 0), .int (Int32.ofInt (-1))]), .inl (2, 0), .inr (1, [.ref 49, .int (Int32.ofInt 0)]), .inl (0, 20), .inr (3, [.null, .null, .int (Int32.ofInt 0), .int (Int32.ofInt 0), .ref 51, .int (Int32.ofInt 0), .ref 52, .ref 53, .ref 54, .ref 55, .int (Int32.ofInt 0)]), .inl (0, 4100), .inl (0, 22), .inl (0, 22), .inl (0, 22), .inl (3, 22), .inr (4, [.null, .null, .ref 57, .ref 58, .int (Int32.ofInt 0), .ref 59, .int (Int32.ofInt 0), .ref 60, .int (Int32.ofInt 0), .ref 61, .int (Int32.ofInt 0), .int (Int32.ofInt 0), .int (Int32.ofInt 0), .int (Int32.ofInt 0), .int (Int32.ofInt 0), .int (Int32.ofInt 0), .long (Int64.ofNat 0)]), .inl (1, 60), .inl (1, 16384), .inl (0, 100), .inl (1, 24000), .inl (0, 192), .inr (8, [.int (Int32.ofInt 0), .ref 63, .ref 64, .ref 65, .ref 66, .ref 67, .ref 68, .ref 69, .ref 70, .int (Int32.ofInt 0), .ref 71, .ref 72, .ref 73, .ref 74]), .inl (1, 20), .inl (0, 20), .inl (0, 20), .inl (0, 20), .inl (0, 20), .inl (1, 80), .inl (0, 80), .inl (0, 80), .inl (0, 3000), .inl (1, 3000), .inl (0, 3000), .inl (0, 3000), .inr (8, [.int (Int32.ofInt 0), .ref 76, .ref 77, .ref 78, .ref 79, .ref 80, .ref 81, .ref 82, .ref 83, .int (Int32.ofInt 0), .ref 84, .ref 85, .ref 86, .ref 87]), .inl (1, 20), .inl (0, 20), .inl (0, 20), .inl (0, 20), .inl (0, 20), .inl (1, 80), .inl (0, 80), .inl (0, 80), .inl (0, 3000), .inl (1, 3000), .inl (0, 3000), .inl (0, 3000), .inr (7, [.null, .ref 89, .int (Int32.ofInt 0), .int (Int32.ofInt 0), .ref 90, .ref 91, .ref 92, .int (Int32.ofInt 0), .int (Int32.ofInt 0), .int (Int32.ofInt 0), .int (Int32.ofInt 0), .long (Int64.ofNat 0), .int (Int32.ofInt 0), .int (Int32.ofInt 0)]), .inl (2, 0), .inl (0, 4001), .inl (0, 4001), .inl (1, 4001), .inr (0, [.null, .ref 94, .int (Int32.ofInt 0), .ref 95, .ref 96, .int (Int32.ofInt 0), .ref 97, .int (Int32.ofInt 0), .int (Int32.ofInt 0)]), .inl (0, 2000), .inl (1, 100), .inl (0, 100), .inl (0, 40)]
def kp_11_11 : List kcE := [.inl (2, 4000), .inl (1, 8), .inr (6, [.ref 4, .int (Int32.ofInt 0), .ref 5, .int (Int32.ofInt 0), .ref 6, .int (Int32.ofInt 0), .ref 7, .int (Int32.ofInt 0), .ref 8, .int (Int32.ofInt 0), .ref 9, .ref 10, .int (Int32.ofInt 0), .ref 11, .int (Int32.ofInt 0), .ref 12, .ref 13, .int (Int32.ofInt 0), .ref 14, .ref 15]), .inl (2, 4000), .inl (0, 180), .inl (0, 60), .inl (1, 2), .inl (1, 2), .inl (0, 180), .inl (1, 60), .inl (0, 240), .inl (0, 180), .inl (1, 60), .inl (0, 4000), .inr (2, [.int (Int32.ofInt 0), .ref 16, .ref 17, .ref 18, .ref 19, .int (Int32.ofInt 0), .ref 20, .ref 21, .ref 22, .int (Int32.ofInt 0), .ref 23]), .inl (0, 60), .inl (0, 60), .inl (0, 60), .inl (2, 3000), .inl (0, 4000), .inl (1, 4000), .inl (0, 4000), .inl (0, 12000), .inr (6, [.ref 25, .int (Int32.ofInt 0), .ref 26, .int (Int32.ofInt 0), .ref 27, .int (Int32.ofInt 0), .ref 28, .int (Int32.ofInt 0), .ref 29, .int (Int32.ofInt 0), .ref 30, .ref 31, .int (Int32.ofInt 0), .ref 32, .int (Int32.ofInt 0), .ref 33, .ref 34, .int (Int32.ofInt 0), .ref 35, .ref 36]), .inl (2, 4000), .inl (0, 180), .inl (0, 60), .inl (1, 2), .inl (1, 2), .inl (0, 180), .inl (1, 60), .inl (0, 240), .inl (0, 180), .inl (1, 60), .inl (0, 4000), .inr (2, [.int (Int32.ofInt 0), .ref 37, .ref 38, .ref 39, .ref 40, .int (Int32.ofInt 0), .ref 41, .ref 42, .ref 43, .int (Int32.ofInt 0), .ref 44]), .inl (0, 60), .inl (0, 60), .inl (0, 60), .inl (2, 3000), .inl (0, 4000), .inl (1, 4000), .inl (0, 4000), .inl (0, 12000), .inr (5, [.ref 46, .ref 48, .int (Int32.ofInt 0)]), .inr (10, [.ref 47, .int (Int32.ofInt 0), .int (Int32.ofInt 0), .int (Int32.ofInt 0), .int (Int32.ofInt (-1))]), .inl (2, 0), .inr (1, [.ref 49, .int (Int32.ofInt 0)]), .inl (0, 20), .inr (3, [.null, .null, .int (Int32.ofInt 0), .int (Int32.ofInt 0), .ref 51, .int (Int32.ofInt 0), .ref 52, .ref 53, .ref 54, .ref 55, .int (Int32.ofInt 0)]), .inl (0, 4100), .inl (0, 22), .inl (0, 22), .inl (0, 22), .inl (3, 22), .inr (4, [.null, .null, .ref 57, .ref 58, .int (Int32.ofInt 0), .ref 59, .int (Int32.ofInt 0), .ref 60, .int (Int32.ofInt 0), .ref 61, .int (Int32.ofInt 0), .int (Int32.ofInt 0), .int (Int32.ofInt 0), .int (Int32.ofInt 0), .int (Int32.ofInt 0), .int (Int32.ofInt 0), .long (Int64.ofNat 0)]), .inl (1, 60), .inl (1, 16384), .inl (0, 100), .inl (1, 24000), .inl (0, 192), .inr (8, [.int (Int32.ofInt 0), .ref 63, .ref 64, .ref 65, .ref 66, .ref 67, .ref 68, .ref 69, .ref 70, .int (Int32.ofInt 0), .ref 71, .ref 72, .ref 73, .ref 74]), .inl (1, 20), .inl (0, 20), .inl (0, 20), .inl (0, 20), .inl (0, 20), .inl (1, 80), .inl (0, 80), .inl (0, 80), .inl (0, 3000), .inl (1, 3000), .inl (0, 3000), .inl (0, 3000), .inr (8, [.int (Int32.ofInt 0), .ref 76, .ref 77, .ref 78, .ref 79, .ref 80, .ref 81, .ref 82, .ref 83, .int (Int32.ofInt 0), .ref 84, .ref 85, .ref 86, .ref 87]), .inl (1, 20), .inl (0, 20), .inl (0, 20), .inl (0, 20), .inl (0, 20), .inl (1, 80), .inl (0, 80), .inl (0, 80), .inl (0, 3000), .inl (1, 3000), .inl (0, 3000), .inl (0, 3000), .inr (7, [.null, .ref 89, .int (Int32.ofInt 0), .int (Int32.ofInt 0), .ref 90, .ref 91, .ref 92, .int (Int32.ofInt 0), .int (Int32.ofInt 0), .int (Int32.ofInt 0), .int (Int32.ofInt 0), .long (Int64.ofNat 0), .int (Int32.ofInt 0), .int (Int32.ofInt 0)]), .inl (2, 0), .inl (0, 4001), .inl (0, 4001), .inl (1, 4001), .inr (0, [.null, .ref 94, .int (Int32.ofInt 0), .ref 95, .ref 96, .int (Int32.ofInt 0), .ref 97, .int (Int32.ofInt 0), .int (Int32.ofInt 0)]), .inl (0, 2000), .inl (1, 100), .inl (0, 100), .inl (0, 40), .inr (9, [.null, .ref 99, .ref 100, .ref 101, .int (Int32.ofInt 0), .ref 102, .int (Int32.ofInt 0), .int (Int32.ofInt 0), .int (Int32.ofInt 0), .int (Int32.ofInt 0), .int (Int32.ofInt 0), .int (Int32.ofInt 0), .int (Int32.ofInt 0), .int (Int32.ofInt 0)]), .inl (0, 501), .inl (0, 501), .inl (0, 12000), .inl (0, 120)]
def kf_11 : List Value := [.ref 1, .int (Int32.ofInt 0), .ref 2, .ref 3, .ref 24, .int (Int32.ofInt 0), .int (Int32.ofInt (-1)), .ref 45, .ref 50, .ref 56, .ref 62, .ref 75, .ref 88, .ref 93, .ref 98, .long (Int64.ofNat 0), .int (Int32.ofInt 0), .int (Int32.ofInt 0)]
def ka_11 : List kcE := [.inl (2, 4000), .inl (1, 8), .inr (6, [.ref 4, .int (Int32.ofInt 0), .ref 5, .int (Int32.ofInt 0), .ref 6, .int (Int32.ofInt 0), .ref 7, .int (Int32.ofInt 0), .ref 8, .int (Int32.ofInt 0), .ref 9, .ref 10, .int (Int32.ofInt 0), .ref 11, .int (Int32.ofInt 0), .ref 12, .ref 13, .int (Int32.ofInt 0), .ref 14, .ref 15]), .inl (2, 4000), .inl (0, 180), .inl (0, 60), .inl (1, 2), .inl (1, 2), .inl (0, 180), .inl (1, 60), .inl (0, 240), .inl (0, 180), .inl (1, 60), .inl (0, 4000), .inr (2, [.int (Int32.ofInt 0), .ref 16, .ref 17, .ref 18, .ref 19, .int (Int32.ofInt 0), .ref 20, .ref 21, .ref 22, .int (Int32.ofInt 0), .ref 23]), .inl (0, 60), .inl (0, 60), .inl (0, 60), .inl (2, 3000), .inl (0, 4000), .inl (1, 4000), .inl (0, 4000), .inl (0, 12000), .inr (6, [.ref 25, .int (Int32.ofInt 0), .ref 26, .int (Int32.ofInt 0), .ref 27, .int (Int32.ofInt 0), .ref 28, .int (Int32.ofInt 0), .ref 29, .int (Int32.ofInt 0), .ref 30, .ref 31, .int (Int32.ofInt 0), .ref 32, .int (Int32.ofInt 0), .ref 33, .ref 34, .int (Int32.ofInt 0), .ref 35, .ref 36]), .inl (2, 4000), .inl (0, 180), .inl (0, 60), .inl (1, 2), .inl (1, 2), .inl (0, 180), .inl (1, 60), .inl (0, 240), .inl (0, 180), .inl (1, 60), .inl (0, 4000), .inr (2, [.int (Int32.ofInt 0), .ref 37, .ref 38, .ref 39, .ref 40, .int (Int32.ofInt 0), .ref 41, .ref 42, .ref 43, .int (Int32.ofInt 0), .ref 44]), .inl (0, 60), .inl (0, 60), .inl (0, 60), .inl (2, 3000), .inl (0, 4000), .inl (1, 4000), .inl (0, 4000), .inl (0, 12000), .inr (5, [.ref 46, .ref 48, .int (Int32.ofInt 0)]), .inr (10, [.ref 47, .int (Int32.ofInt 0), .int (Int32.ofInt 0), .int (Int32.ofInt 0), .int (Int32.ofInt (-1))]), .inl (2, 0), .inr (1, [.ref 49, .int (Int32.ofInt 0)]), .inl (0, 20), .inr (3, [.null, .null, .int (Int32.ofInt 0), .int (Int32.ofInt 0), .ref 51, .int (Int32.ofInt 0), .ref 52, .ref 53, .ref 54, .ref 55, .int (Int32.ofInt 0)]), .inl (0, 4100), .inl (0, 22), .inl (0, 22), .inl (0, 22), .inl (3, 22), .inr (4, [.null, .null, .ref 57, .ref 58, .int (Int32.ofInt 0), .ref 59, .int (Int32.ofInt 0), .ref 60, .int (Int32.ofInt 0), .ref 61, .int (Int32.ofInt 0), .int (Int32.ofInt 0), .int (Int32.ofInt 0), .int (Int32.ofInt 0), .int (Int32.ofInt 0), .int (Int32.ofInt 0), .long (Int64.ofNat 0)]), .inl (1, 60), .inl (1, 16384), .inl (0, 100), .inl (1, 24000), .inl (0, 192), .inr (8, [.int (Int32.ofInt 0), .ref 63, .ref 64, .ref 65, .ref 66, .ref 67, .ref 68, .ref 69, .ref 70, .int (Int32.ofInt 0), .ref 71, .ref 72, .ref 73, .ref 74]), .inl (1, 20), .inl (0, 20), .inl (0, 20), .inl (0, 20), .inl (0, 20), .inl (1, 80), .inl (0, 80), .inl (0, 80), .inl (0, 3000), .inl (1, 3000), .inl (0, 3000), .inl (0, 3000), .inr (8, [.int (Int32.ofInt 0), .ref 76, .ref 77, .ref 78, .ref 79, .ref 80, .ref 81, .ref 82, .ref 83, .int (Int32.ofInt 0), .ref 84, .ref 85, .ref 86, .ref 87]), .inl (1, 20), .inl (0, 20), .inl (0, 20), .inl (0, 20), .inl (0, 20), .inl (1, 80), .inl (0, 80), .inl (0, 80), .inl (0, 3000), .inl (1, 3000), .inl (0, 3000), .inl (0, 3000), .inr (7, [.null, .ref 89, .int (Int32.ofInt 0), .int (Int32.ofInt 0), .ref 90, .ref 91, .ref 92, .int (Int32.ofInt 0), .int (Int32.ofInt 0), .int (Int32.ofInt 0), .int (Int32.ofInt 0), .long (Int64.ofNat 0), .int (Int32.ofInt 0), .int (Int32.ofInt 0)]), .inl (2, 0), .inl (0, 4001), .inl (0, 4001), .inl (1, 4001), .inr (0, [.null, .ref 94, .int (Int32.ofInt 0), .ref 95, .ref 96, .int (Int32.ofInt 0), .ref 97, .int (Int32.ofInt 0), .int (Int32.ofInt 0)]), .inl (0, 2000), .inl (1, 100), .inl (0, 100), .inl (0, 40), .inr (9, [.null, .ref 99, .ref 100, .ref 101, .int (Int32.ofInt 0), .ref 102, .int (Int32.ofInt 0), .int (Int32.ofInt 0), .int (Int32.ofInt 0), .int (Int32.ofInt 0), .int (Int32.ofInt 0), .int (Int32.ofInt 0), .int (Int32.ofInt 0), .int (Int32.ofInt 0)]), .inl (0, 501), .inl (0, 501), .inl (0, 12000), .inl (0, 120)]
set_option maxRecDepth 100000 in
set_option maxHeartbeats 8000000 in
theorem kt_11 {d : Nat} : Kt (d + 3) 0 11 kf_11 ka_11 := by
  refine Kt.of fk_q0 rfl rfl ?_
  refine kr_aload (n := 0) (by decide +kernel) rfl ?_
  refine kr_obj (idx := 1) (by decide +kernel) (fk_in1 (List.mem_of_getElem? (i := 29) rfl)) (fk_in1 (List.mem_of_getElem? (i := 30) rfl)) (fk_in1 (List.mem_of_getElem? (i := 31) rfl)) ?_
  refine kr_aload (n := 0) (by decide +kernel) rfl ?_
  refine kr_sipush (n := 4000) (by decide +kernel) (by decide +kernel) ?_
  refine kr_newa (at0 := .byte) (t := 2) (N := 4000) (ty := .byte) (by decide +kernel) rfl (Or.inr (Or.inr (Or.inl ⟨rfl, rfl⟩))) (fk_in1 (List.mem_of_getElem? (i := 107) rfl)) (by decide +kernel) (by decide +kernel) (Nat.le_of_ble_eq_true rfl) (by decide +kernel) (by decide +kernel) ?_
  refine kr_put (idx := 9) (slot := 0) (v := .ref 1) (Cn := RX11) (T := TX11) (N := 18) (by decide +kernel) rfl rfl (by decide +kernel) (by decide +kernel) (fk_in3 (List.mem_of_getElem? (i := 130) rfl)) rfl (by decide +kernel) ?_
  refine kr_aload (n := 0) (by decide +kernel) rfl ?_
  refine kr_iconst (n := 0) (by decide +kernel) ?_
  refine kr_put (idx := 13) (slot := 1) (v := .int (Int32.ofInt 0)) (Cn := RX11) (T := TX11) (N := 18) (by decide +kernel) rfl rfl (by decide +kernel) (by decide +kernel) (fk_in3 (List.mem_of_getElem? (i := 131) rfl)) rfl (by decide +kernel) ?_
  refine kr_aload (n := 0) (by decide +kernel) rfl ?_
  refine kr_bipush (n := 8) (by decide +kernel) (by decide +kernel) ?_
  refine kr_newa (at0 := .long) (t := 1) (N := 8) (ty := .long) (by decide +kernel) rfl (Or.inr (Or.inl ⟨rfl, rfl⟩)) (fk_in1 (List.mem_of_getElem? (i := 108) rfl)) (by decide +kernel) (by decide +kernel) (Nat.le_of_ble_eq_true rfl) (by decide +kernel) (by decide +kernel) ?_
  refine kr_put (idx := 17) (slot := 2) (v := .ref 2) (Cn := RX11) (T := TX11) (N := 18) (by decide +kernel) rfl rfl (by decide +kernel) (by decide +kernel) (fk_in3 (List.mem_of_getElem? (i := 132) rfl)) rfl (by decide +kernel) ?_
  refine kr_aload (n := 0) (by decide +kernel) rfl ?_
  refine kr_nf (as' := kp_11_1) (by decide +kernel) ?_
  refine kr_new (i := 21) (cj := 6) (by decide +kernel) rfl (fk_in1 (List.mem_of_getElem? (i := 32) rfl)) (fk_in1 (List.mem_of_getElem? (i := 33) rfl)) (fk_in1 (List.mem_of_getElem? (i := 2) rfl)) (by decide +kernel) (by decide +kernel) ?_
  refine kr_dup (by decide +kernel) ?_
  refine kr_init (q := ("", TX2, 0)) (idx := 23) (as := kp_11_1) (j := 2) (cj := 6) (host := "FoldForge") (f2 := kf_6) (a2 := ka_6) (by decide +kernel) fk_q2 rfl rfl (fk_in1 (List.mem_of_getElem? (i := 34) rfl)) (fk_in1 (List.mem_of_getElem? (i := 35) rfl)) (by decide +kernel) (by decide +kernel) (by decide +kernel) (by decide +kernel) (by decide +kernel) (by decide +kernel) (kt_6 (d := d + 0)) ?_
  refine kr_nf (as' := kp_11_2) (by decide +kernel) ?_
  refine kr_put (idx := 24) (slot := 3) (v := .ref 3) (Cn := RX11) (T := TX11) (N := 18) (by decide +kernel) rfl rfl (by decide +kernel) (by decide +kernel) (fk_in3 (List.mem_of_getElem? (i := 133) rfl)) rfl (by decide +kernel) ?_
  refine kr_aload (n := 0) (by decide +kernel) rfl ?_
  refine kr_new (i := 21) (cj := 6) (by decide +kernel) rfl (fk_in1 (List.mem_of_getElem? (i := 32) rfl)) (fk_in1 (List.mem_of_getElem? (i := 33) rfl)) (fk_in1 (List.mem_of_getElem? (i := 2) rfl)) (by decide +kernel) (by decide +kernel) ?_
  refine kr_dup (by decide +kernel) ?_
  refine kr_init (q := ("", TX2, 0)) (idx := 23) (as := kp_11_2) (j := 2) (cj := 6) (host := "FoldForge") (f2 := kf_6) (a2 := ka_6) (by decide +kernel) fk_q2 rfl rfl (fk_in1 (List.mem_of_getElem? (i := 34) rfl)) (fk_in1 (List.mem_of_getElem? (i := 35) rfl)) (by decide +kernel) (by decide +kernel) (by decide +kernel) (by decide +kernel) (by decide +kernel) (by decide +kernel) (kt_6 (d := d + 0)) ?_
  refine kr_nf (as' := kp_11_3) (by decide +kernel) ?_
  refine kr_put (idx := 28) (slot := 4) (v := .ref 24) (Cn := RX11) (T := TX11) (N := 18) (by decide +kernel) rfl rfl (by decide +kernel) (by decide +kernel) (fk_in3 (List.mem_of_getElem? (i := 134) rfl)) rfl (by decide +kernel) ?_
  refine kr_aload (n := 0) (by decide +kernel) rfl ?_
  refine kr_iconst (n := 0) (by decide +kernel) ?_
  refine kr_put (idx := 31) (slot := 5) (v := .int (Int32.ofInt 0)) (Cn := RX11) (T := TX11) (N := 18) (by decide +kernel) rfl rfl (by decide +kernel) (by decide +kernel) (fk_in3 (List.mem_of_getElem? (i := 135) rfl)) rfl (by decide +kernel) ?_
  refine kr_aload (n := 0) (by decide +kernel) rfl ?_
  refine kr_iconst (n := (-1)) (by decide +kernel) ?_
  refine kr_put (idx := 35) (slot := 6) (v := .int (Int32.ofInt (-1))) (Cn := RX11) (T := TX11) (N := 18) (by decide +kernel) rfl rfl (by decide +kernel) (by decide +kernel) (fk_in3 (List.mem_of_getElem? (i := 136) rfl)) rfl (by decide +kernel) ?_
  refine kr_aload (n := 0) (by decide +kernel) rfl ?_
  refine kr_new (i := 38) (cj := 5) (by decide +kernel) rfl (fk_in1 (List.mem_of_getElem? (i := 229) rfl)) (fk_in1 (List.mem_of_getElem? (i := 230) rfl)) (fk_in1 (List.mem_of_getElem? (i := 4) rfl)) (by decide +kernel) (by decide +kernel) ?_
  refine kr_dup (by decide +kernel) ?_
  refine kr_init (q := ("", TX2, 0)) (idx := 40) (as := kp_11_3) (j := 4) (cj := 5) (host := "FoldForge") (f2 := kf_5) (a2 := ka_5) (by decide +kernel) fk_q4 rfl rfl (fk_in1 (List.mem_of_getElem? (i := 231) rfl)) (fk_in1 (List.mem_of_getElem? (i := 232) rfl)) (by decide +kernel) (by decide +kernel) (by decide +kernel) (by decide +kernel) (by decide +kernel) (by decide +kernel) (kt_5 (d := d + 0)) ?_
  refine kr_nf (as' := kp_11_4) (by decide +kernel) ?_
  refine kr_put (idx := 41) (slot := 7) (v := .ref 45) (Cn := RX11) (T := TX11) (N := 18) (by decide +kernel) rfl rfl (by decide +kernel) (by decide +kernel) (fk_in3 (List.mem_of_getElem? (i := 137) rfl)) rfl (by decide +kernel) ?_
  refine kr_aload (n := 0) (by decide +kernel) rfl ?_
  refine kr_new (i := 45) (cj := 3) (by decide +kernel) rfl (fk_in2 (List.mem_of_getElem? (i := 48) rfl)) (fk_in2 (List.mem_of_getElem? (i := 49) rfl)) (fk_in1 (List.mem_of_getElem? (i := 7) rfl)) (by decide +kernel) (by decide +kernel) ?_
  refine kr_dup (by decide +kernel) ?_
  refine kr_init (q := ("", TX2, 0)) (idx := 47) (as := kp_11_4) (j := 7) (cj := 3) (host := "FoldForge") (f2 := kf_3) (a2 := ka_3) (by decide +kernel) fk_q7 rfl rfl (fk_in2 (List.mem_of_getElem? (i := 50) rfl)) (fk_in2 (List.mem_of_getElem? (i := 51) rfl)) (by decide +kernel) (by decide +kernel) (by decide +kernel) (by decide +kernel) (by decide +kernel) (by decide +kernel) (kt_3 (d := d + 1)) ?_
  refine kr_nf (as' := kp_11_5) (by decide +kernel) ?_
  refine kr_put (idx := 48) (slot := 8) (v := .ref 50) (Cn := RX11) (T := TX11) (N := 18) (by decide +kernel) rfl rfl (by decide +kernel) (by decide +kernel) (fk_in3 (List.mem_of_getElem? (i := 138) rfl)) rfl (by decide +kernel) ?_
  refine kr_aload (n := 0) (by decide +kernel) rfl ?_
  refine kr_new (i := 52) (cj := 4) (by decide +kernel) rfl (fk_in2 (List.mem_of_getElem? (i := 89) rfl)) (fk_in2 (List.mem_of_getElem? (i := 90) rfl)) (fk_in1 (List.mem_of_getElem? (i := 8) rfl)) (by decide +kernel) (by decide +kernel) ?_
  refine kr_dup (by decide +kernel) ?_
  refine kr_init (q := ("", TX2, 0)) (idx := 54) (as := kp_11_5) (j := 8) (cj := 4) (host := "FoldForge") (f2 := kf_4) (a2 := ka_4) (by decide +kernel) fk_q8 rfl rfl (fk_in2 (List.mem_of_getElem? (i := 91) rfl)) (fk_in2 (List.mem_of_getElem? (i := 92) rfl)) (by decide +kernel) (by decide +kernel) (by decide +kernel) (by decide +kernel) (by decide +kernel) (by decide +kernel) (kt_4 (d := d + 1)) ?_
  refine kr_nf (as' := kp_11_6) (by decide +kernel) ?_
  refine kr_put (idx := 55) (slot := 9) (v := .ref 56) (Cn := RX11) (T := TX11) (N := 18) (by decide +kernel) rfl rfl (by decide +kernel) (by decide +kernel) (fk_in3 (List.mem_of_getElem? (i := 139) rfl)) rfl (by decide +kernel) ?_
  refine kr_aload (n := 0) (by decide +kernel) rfl ?_
  refine kr_new (i := 59) (cj := 8) (by decide +kernel) rfl (fk_in2 (List.mem_of_getElem? (i := 154) rfl)) (fk_in2 (List.mem_of_getElem? (i := 155) rfl)) (fk_in1 (List.mem_of_getElem? (i := 9) rfl)) (by decide +kernel) (by decide +kernel) ?_
  refine kr_dup (by decide +kernel) ?_
  refine kr_init (q := ("", TX2, 0)) (idx := 61) (as := kp_11_6) (j := 9) (cj := 8) (host := "FoldForge") (f2 := kf_8) (a2 := ka_8) (by decide +kernel) fk_q9 rfl rfl (fk_in2 (List.mem_of_getElem? (i := 156) rfl)) (fk_in2 (List.mem_of_getElem? (i := 157) rfl)) (by decide +kernel) (by decide +kernel) (by decide +kernel) (by decide +kernel) (by decide +kernel) (by decide +kernel) (kt_8 (d := d + 1)) ?_
  refine kr_nf (as' := kp_11_7) (by decide +kernel) ?_
  refine kr_put (idx := 62) (slot := 10) (v := .ref 62) (Cn := RX11) (T := TX11) (N := 18) (by decide +kernel) rfl rfl (by decide +kernel) (by decide +kernel) (fk_in3 (List.mem_of_getElem? (i := 140) rfl)) rfl (by decide +kernel) ?_
  refine kr_aload (n := 0) (by decide +kernel) rfl ?_
  refine kr_new (i := 59) (cj := 8) (by decide +kernel) rfl (fk_in2 (List.mem_of_getElem? (i := 154) rfl)) (fk_in2 (List.mem_of_getElem? (i := 155) rfl)) (fk_in1 (List.mem_of_getElem? (i := 9) rfl)) (by decide +kernel) (by decide +kernel) ?_
  refine kr_dup (by decide +kernel) ?_
  refine kr_init (q := ("", TX2, 0)) (idx := 61) (as := kp_11_7) (j := 9) (cj := 8) (host := "FoldForge") (f2 := kf_8) (a2 := ka_8) (by decide +kernel) fk_q9 rfl rfl (fk_in2 (List.mem_of_getElem? (i := 156) rfl)) (fk_in2 (List.mem_of_getElem? (i := 157) rfl)) (by decide +kernel) (by decide +kernel) (by decide +kernel) (by decide +kernel) (by decide +kernel) (by decide +kernel) (kt_8 (d := d + 1)) ?_
  refine kr_nf (as' := kp_11_8) (by decide +kernel) ?_
  refine kr_put (idx := 66) (slot := 11) (v := .ref 75) (Cn := RX11) (T := TX11) (N := 18) (by decide +kernel) rfl rfl (by decide +kernel) (by decide +kernel) (fk_in3 (List.mem_of_getElem? (i := 141) rfl)) rfl (by decide +kernel) ?_
  refine kr_aload (n := 0) (by decide +kernel) rfl ?_
  refine kr_new (i := 69) (cj := 7) (by decide +kernel) rfl (fk_in2 (List.mem_of_getElem? (i := 233) rfl)) (fk_in2 (List.mem_of_getElem? (i := 234) rfl)) (fk_in1 (List.mem_of_getElem? (i := 10) rfl)) (by decide +kernel) (by decide +kernel) ?_
  refine kr_dup (by decide +kernel) ?_
  refine kr_init (q := ("", TX2, 0)) (idx := 71) (as := kp_11_8) (j := 10) (cj := 7) (host := "FoldForge") (f2 := kf_7) (a2 := ka_7) (by decide +kernel) fk_q10 rfl rfl (fk_in2 (List.mem_of_getElem? (i := 235) rfl)) (fk_in2 (List.mem_of_getElem? (i := 236) rfl)) (by decide +kernel) (by decide +kernel) (by decide +kernel) (by decide +kernel) (by decide +kernel) (by decide +kernel) (kt_7 (d := d + 1)) ?_
  refine kr_nf (as' := kp_11_9) (by decide +kernel) ?_
  refine kr_put (idx := 72) (slot := 12) (v := .ref 88) (Cn := RX11) (T := TX11) (N := 18) (by decide +kernel) rfl rfl (by decide +kernel) (by decide +kernel) (fk_in3 (List.mem_of_getElem? (i := 142) rfl)) rfl (by decide +kernel) ?_
  refine kr_aload (n := 0) (by decide +kernel) rfl ?_
  refine kr_new (i := 76) (cj := 0) (by decide +kernel) rfl (fk_in3 (List.mem_of_getElem? (i := 42) rfl)) (fk_in3 (List.mem_of_getElem? (i := 43) rfl)) (fk_in1 (List.mem_of_getElem? (i := 11) rfl)) (by decide +kernel) (by decide +kernel) ?_
  refine kr_dup (by decide +kernel) ?_
  refine kr_init (q := ("", TX2, 0)) (idx := 78) (as := kp_11_9) (j := 11) (cj := 0) (host := "FoldForge") (f2 := kf_0) (a2 := ka_0) (by decide +kernel) fk_q11 rfl rfl (fk_in3 (List.mem_of_getElem? (i := 44) rfl)) (fk_in3 (List.mem_of_getElem? (i := 45) rfl)) (by decide +kernel) (by decide +kernel) (by decide +kernel) (by decide +kernel) (by decide +kernel) (by decide +kernel) (kt_0 (d := d + 1)) ?_
  refine kr_nf (as' := kp_11_10) (by decide +kernel) ?_
  refine kr_put (idx := 79) (slot := 13) (v := .ref 93) (Cn := RX11) (T := TX11) (N := 18) (by decide +kernel) rfl rfl (by decide +kernel) (by decide +kernel) (fk_in3 (List.mem_of_getElem? (i := 143) rfl)) rfl (by decide +kernel) ?_
  refine kr_aload (n := 0) (by decide +kernel) rfl ?_
  refine kr_new (i := 83) (cj := 9) (by decide +kernel) rfl (fk_in3 (List.mem_of_getElem? (i := 76) rfl)) (fk_in3 (List.mem_of_getElem? (i := 77) rfl)) (fk_in1 (List.mem_of_getElem? (i := 12) rfl)) (by decide +kernel) (by decide +kernel) ?_
  refine kr_dup (by decide +kernel) ?_
  refine kr_init (q := ("", TX2, 0)) (idx := 85) (as := kp_11_10) (j := 12) (cj := 9) (host := "FoldForge") (f2 := kf_9) (a2 := ka_9) (by decide +kernel) fk_q12 rfl rfl (fk_in3 (List.mem_of_getElem? (i := 78) rfl)) (fk_in3 (List.mem_of_getElem? (i := 79) rfl)) (by decide +kernel) (by decide +kernel) (by decide +kernel) (by decide +kernel) (by decide +kernel) (by decide +kernel) (kt_9 (d := d + 1)) ?_
  refine kr_nf (as' := kp_11_11) (by decide +kernel) ?_
  refine kr_put (idx := 86) (slot := 14) (v := .ref 98) (Cn := RX11) (T := TX11) (N := 18) (by decide +kernel) rfl rfl (by decide +kernel) (by decide +kernel) (fk_in3 (List.mem_of_getElem? (i := 144) rfl)) rfl (by decide +kernel) ?_
  refine kr_aload (n := 0) (by decide +kernel) rfl ?_
  refine kr_lconst (n := 0) (by decide +kernel) ?_
  refine kr_put (idx := 90) (slot := 15) (v := .long (Int64.ofNat 0)) (Cn := RX11) (T := TX11) (N := 18) (by decide +kernel) rfl rfl (by decide +kernel) (by decide +kernel) (fk_in3 (List.mem_of_getElem? (i := 145) rfl)) rfl (by decide +kernel) ?_
  refine kr_aload (n := 0) (by decide +kernel) rfl ?_
  refine kr_iconst (n := 0) (by decide +kernel) ?_
  refine kr_put (idx := 94) (slot := 16) (v := .int (Int32.ofInt 0)) (Cn := RX11) (T := TX11) (N := 18) (by decide +kernel) rfl rfl (by decide +kernel) (by decide +kernel) (fk_in3 (List.mem_of_getElem? (i := 146) rfl)) rfl (by decide +kernel) ?_
  refine kr_aload (n := 0) (by decide +kernel) rfl ?_
  refine kr_iconst (n := 0) (by decide +kernel) ?_
  refine kr_put (idx := 97) (slot := 17) (v := .int (Int32.ofInt 0)) (Cn := RX11) (T := TX11) (N := 18) (by decide +kernel) rfl rfl (by decide +kernel) (by decide +kernel) (fk_in3 (List.mem_of_getElem? (i := 147) rfl)) rfl (by decide +kernel) ?_
  exact kr_ret (by decide +kernel) rfl (by decide +kernel) (by decide +kernel) (by decide +kernel)
def kf_12 : List Value := [.ref 1, .int (Int32.ofInt 0), .int (Int32.ofInt (-1)), .ref 2, .ref 3, .ref 4, .ref 5, .ref 6, .ref 7, .ref 8, .ref 9, .ref 10, .ref 11, .ref 12, .ref 13, .ref 14, .ref 15, .ref 16, .ref 17, .ref 18, .ref 19, .ref 20, .ref 21, .ref 22, .ref 23, .ref 24, .ref 25, .ref 26, .ref 27, .ref 28, .ref 29, .ref 30, .ref 31, .ref 32, .ref 33, .ref 34, .ref 35, .int (Int32.ofInt 0), .int (Int32.ofInt 0), .int (Int32.ofInt 0), .int (Int32.ofInt 0), .int (Int32.ofInt 0), .int (Int32.ofInt 0), .int (Int32.ofInt 0), .int (Int32.ofInt 0), .long (Int64.ofNat 0), .ref 36, .ref 37, .ref 38, .ref 39, .ref 40, .ref 41, .ref 42, .int (Int32.ofInt 0), .int (Int32.ofInt 0), .int (Int32.ofInt 0), .int (Int32.ofInt 0), .int (Int32.ofInt 0), .int (Int32.ofInt 0), .ref 43, .ref 44, .ref 45, .int (Int32.ofInt 0), .ref 46, .ref 47, .ref 48, .int (Int32.ofInt 0), .int (Int32.ofInt 0), .int (Int32.ofInt 0), .int (Int32.ofInt 0), .int (Int32.ofInt 0), .int (Int32.ofInt 0), .ref 49, .ref 50, .int (Int32.ofInt 0), .long (Int64.ofNat 0), .int (Int32.ofInt 0), .int (Int32.ofInt 0), .ref 51, .int (Int32.ofInt 0), .int (Int32.ofInt 0), .int (Int32.ofInt 0), .int (Int32.ofInt 0), .int (Int32.ofInt 0), .int (Int32.ofInt 0), .long (Int64.ofNat 0), .int (Int32.ofInt 0), .int (Int32.ofInt 0), .ref 52, .ref 53, .ref 54, .ref 55, .ref 56, .ref 57, .ref 58, .ref 59, .ref 60, .int (Int32.ofInt 0), .ref 61, .ref 62, .ref 63, .ref 64, .ref 65, .ref 66, .ref 67, .ref 68, .ref 69, .ref 70, .ref 71, .ref 72, .ref 73, .int (Int32.ofInt 0), .int (Int32.ofInt 0), .int (Int32.ofInt 0), .ref 74, .ref 75, .ref 76, .int (Int32.ofInt 0), .int (Int32.ofInt 0), .ref 77, .ref 78, .ref 79, .ref 80, .ref 81, .ref 82, .int (Int32.ofInt 0), .int (Int32.ofInt 0), .ref 83, .ref 84, .ref 85, .ref 86, .ref 87, .int (Int32.ofInt 0), .int (Int32.ofInt 0), .int (Int32.ofInt 0), .int (Int32.ofInt 0), .int (Int32.ofInt 0), .int (Int32.ofInt 0), .int (Int32.ofInt 0), .int (Int32.ofInt 0), .int (Int32.ofInt 0), .int (Int32.ofInt 0), .int (Int32.ofInt 0)]
def ka_12 : List kcE := [.inl (0, 4000), .inl (0, 8000), .inl (0, 2), .inl (0, 120), .inl (0, 7200), .inl (0, 120), .inl (0, 2), .inl (0, 2), .inl (0, 2), .inl (0, 2), .inl (0, 2), .inl (0, 2), .inl (0, 2), .inl (1, 120), .inl (1, 2), .inl (1, 2), .inl (1, 2), .inl (1, 2), .inl (1, 120), .inl (1, 120), .inl (1, 120), .inl (1, 7200), .inl (0, 120), .inl (0, 120), .inl (0, 120), .inl (0, 120), .inl (0, 120), .inl (0, 120), .inl (0, 120), .inl (0, 120), .inl (0, 120), .inl (0, 6000), .inl (0, 120), .inl (0, 8000), .inl (0, 8000), .inl (0, 21), .inl (0, 4080), .inl (0, 22), .inl (0, 22), .inl (0, 22), .inl (0, 22), .inl (3, 22), .inl (1, 60), .inl (0, 100), .inl (0, 131072), .inl (1, 8), .inl (1, 140000), .inl (1, 7150), .inl (0, 1365), .inl (0, 1365), .inl (0, 4000), .inl (0, 20), .inl (0, 20), .inl (0, 20), .inl (0, 20), .inl (0, 20), .inl (0, 20), .inl (0, 80), .inl (0, 80), .inl (0, 80), .inl (0, 3000), .inl (0, 3000), .inl (0, 3000), .inl (0, 3000), .inl (0, 3000), .inl (0, 3000), .inl (0, 3000), .inl (0, 3000), .inl (0, 3000), .inl (0, 3000), .inl (0, 3000), .inl (0, 3000), .inl (0, 3000), .inl (0, 3000), .inl (0, 3000), .inl (0, 3000), .inl (0, 4000), .inl (0, 4000), .inl (0, 4000), .inl (0, 20), .inl (0, 20), .inl (0, 20), .inl (0, 40000), .inl (0, 30500), .inl (0, 61), .inl (0, 500), .inl (0, 500)]
set_option maxRecDepth 100000 in
set_option maxHeartbeats 8000000 in
theorem kt_12 {d : Nat} : Kt (d + 1) 236 12 kf_12 ka_12 := by
  refine Kt.of fk_q236 rfl rfl ?_
  refine kr_aload (n := 0) (by decide +kernel) rfl ?_
  refine kr_obj (idx := 1) (by decide +kernel) (fk_in7 (List.mem_of_getElem? (i := 166) rfl)) (fk_in1 (List.mem_of_getElem? (i := 30) rfl)) (fk_in1 (List.mem_of_getElem? (i := 31) rfl)) ?_
  refine kr_aload (n := 0) (by decide +kernel) rfl ?_
  refine kr_sipush (n := 4000) (by decide +kernel) (by decide +kernel) ?_
  refine kr_newa (at0 := .int) (t := 0) (N := 4000) (ty := .int) (by decide +kernel) rfl (Or.inl ⟨rfl, rfl⟩) (fk_in1 (List.mem_of_getElem? (i := 109) rfl)) (by decide +kernel) (by decide +kernel) (Nat.le_of_ble_eq_true rfl) (by decide +kernel) (by decide +kernel) ?_
  refine kr_put (idx := 9) (slot := 0) (v := .ref 1) (Cn := RX12) (T := TX12) (N := 143) (by decide +kernel) rfl rfl (by decide +kernel) (by decide +kernel) (fk_in7 (List.mem_of_getElem? (i := 170) rfl)) rfl (by decide +kernel) ?_
  refine kr_aload (n := 0) (by decide +kernel) rfl ?_
  refine kr_iconst (n := (-1)) (by decide +kernel) ?_
  refine kr_put (idx := 13) (slot := 2) (v := .int (Int32.ofInt (-1))) (Cn := RX12) (T := TX12) (N := 143) (by decide +kernel) rfl rfl (by decide +kernel) (by decide +kernel) (fk_in7 (List.mem_of_getElem? (i := 172) rfl)) rfl (by decide +kernel) ?_
  refine kr_aload (n := 0) (by decide +kernel) rfl ?_
  refine kr_sipush (n := 8000) (by decide +kernel) (by decide +kernel) ?_
  refine kr_newa (at0 := .int) (t := 0) (N := 8000) (ty := .int) (by decide +kernel) rfl (Or.inl ⟨rfl, rfl⟩) (fk_in1 (List.mem_of_getElem? (i := 109) rfl)) (by decide +kernel) (by decide +kernel) (Nat.le_of_ble_eq_true rfl) (by decide +kernel) (by decide +kernel) ?_
  refine kr_put (idx := 17) (slot := 3) (v := .ref 2) (Cn := RX12) (T := TX12) (N := 143) (by decide +kernel) rfl rfl (by decide +kernel) (by decide +kernel) (fk_in7 (List.mem_of_getElem? (i := 173) rfl)) rfl (by decide +kernel) ?_
  refine kr_aload (n := 0) (by decide +kernel) rfl ?_
  refine kr_iconst (n := 2) (by decide +kernel) ?_
  refine kr_newa (at0 := .int) (t := 0) (N := 2) (ty := .int) (by decide +kernel) rfl (Or.inl ⟨rfl, rfl⟩) (fk_in1 (List.mem_of_getElem? (i := 109) rfl)) (by decide +kernel) (by decide +kernel) (Nat.le_of_ble_eq_true rfl) (by decide +kernel) (by decide +kernel) ?_
  refine kr_put (idx := 20) (slot := 4) (v := .ref 3) (Cn := RX12) (T := TX12) (N := 143) (by decide +kernel) rfl rfl (by decide +kernel) (by decide +kernel) (fk_in7 (List.mem_of_getElem? (i := 174) rfl)) rfl (by decide +kernel) ?_
  refine kr_aload (n := 0) (by decide +kernel) rfl ?_
  refine kr_bipush (n := 120) (by decide +kernel) (by decide +kernel) ?_
  refine kr_newa (at0 := .int) (t := 0) (N := 120) (ty := .int) (by decide +kernel) rfl (Or.inl ⟨rfl, rfl⟩) (fk_in1 (List.mem_of_getElem? (i := 109) rfl)) (by decide +kernel) (by decide +kernel) (Nat.le_of_ble_eq_true rfl) (by decide +kernel) (by decide +kernel) ?_
  refine kr_put (idx := 23) (slot := 5) (v := .ref 4) (Cn := RX12) (T := TX12) (N := 143) (by decide +kernel) rfl rfl (by decide +kernel) (by decide +kernel) (fk_in7 (List.mem_of_getElem? (i := 175) rfl)) rfl (by decide +kernel) ?_
  refine kr_aload (n := 0) (by decide +kernel) rfl ?_
  refine kr_sipush (n := 7200) (by decide +kernel) (by decide +kernel) ?_
  refine kr_newa (at0 := .int) (t := 0) (N := 7200) (ty := .int) (by decide +kernel) rfl (Or.inl ⟨rfl, rfl⟩) (fk_in1 (List.mem_of_getElem? (i := 109) rfl)) (by decide +kernel) (by decide +kernel) (Nat.le_of_ble_eq_true rfl) (by decide +kernel) (by decide +kernel) ?_
  refine kr_put (idx := 26) (slot := 6) (v := .ref 5) (Cn := RX12) (T := TX12) (N := 143) (by decide +kernel) rfl rfl (by decide +kernel) (by decide +kernel) (fk_in7 (List.mem_of_getElem? (i := 176) rfl)) rfl (by decide +kernel) ?_
  refine kr_aload (n := 0) (by decide +kernel) rfl ?_
  refine kr_bipush (n := 120) (by decide +kernel) (by decide +kernel) ?_
  refine kr_newa (at0 := .int) (t := 0) (N := 120) (ty := .int) (by decide +kernel) rfl (Or.inl ⟨rfl, rfl⟩) (fk_in1 (List.mem_of_getElem? (i := 109) rfl)) (by decide +kernel) (by decide +kernel) (Nat.le_of_ble_eq_true rfl) (by decide +kernel) (by decide +kernel) ?_
  refine kr_put (idx := 29) (slot := 7) (v := .ref 6) (Cn := RX12) (T := TX12) (N := 143) (by decide +kernel) rfl rfl (by decide +kernel) (by decide +kernel) (fk_in7 (List.mem_of_getElem? (i := 177) rfl)) rfl (by decide +kernel) ?_
  refine kr_aload (n := 0) (by decide +kernel) rfl ?_
  refine kr_iconst (n := 2) (by decide +kernel) ?_
  refine kr_newa (at0 := .int) (t := 0) (N := 2) (ty := .int) (by decide +kernel) rfl (Or.inl ⟨rfl, rfl⟩) (fk_in1 (List.mem_of_getElem? (i := 109) rfl)) (by decide +kernel) (by decide +kernel) (Nat.le_of_ble_eq_true rfl) (by decide +kernel) (by decide +kernel) ?_
  refine kr_put (idx := 32) (slot := 8) (v := .ref 7) (Cn := RX12) (T := TX12) (N := 143) (by decide +kernel) rfl rfl (by decide +kernel) (by decide +kernel) (fk_in7 (List.mem_of_getElem? (i := 178) rfl)) rfl (by decide +kernel) ?_
  refine kr_aload (n := 0) (by decide +kernel) rfl ?_
  refine kr_iconst (n := 2) (by decide +kernel) ?_
  refine kr_newa (at0 := .int) (t := 0) (N := 2) (ty := .int) (by decide +kernel) rfl (Or.inl ⟨rfl, rfl⟩) (fk_in1 (List.mem_of_getElem? (i := 109) rfl)) (by decide +kernel) (by decide +kernel) (Nat.le_of_ble_eq_true rfl) (by decide +kernel) (by decide +kernel) ?_
  refine kr_put (idx := 35) (slot := 9) (v := .ref 8) (Cn := RX12) (T := TX12) (N := 143) (by decide +kernel) rfl rfl (by decide +kernel) (by decide +kernel) (fk_in7 (List.mem_of_getElem? (i := 179) rfl)) rfl (by decide +kernel) ?_
  refine kr_aload (n := 0) (by decide +kernel) rfl ?_
  refine kr_iconst (n := 2) (by decide +kernel) ?_
  refine kr_newa (at0 := .int) (t := 0) (N := 2) (ty := .int) (by decide +kernel) rfl (Or.inl ⟨rfl, rfl⟩) (fk_in1 (List.mem_of_getElem? (i := 109) rfl)) (by decide +kernel) (by decide +kernel) (Nat.le_of_ble_eq_true rfl) (by decide +kernel) (by decide +kernel) ?_
  refine kr_put (idx := 38) (slot := 10) (v := .ref 9) (Cn := RX12) (T := TX12) (N := 143) (by decide +kernel) rfl rfl (by decide +kernel) (by decide +kernel) (fk_in7 (List.mem_of_getElem? (i := 180) rfl)) rfl (by decide +kernel) ?_
  refine kr_aload (n := 0) (by decide +kernel) rfl ?_
  refine kr_iconst (n := 2) (by decide +kernel) ?_
  refine kr_newa (at0 := .int) (t := 0) (N := 2) (ty := .int) (by decide +kernel) rfl (Or.inl ⟨rfl, rfl⟩) (fk_in1 (List.mem_of_getElem? (i := 109) rfl)) (by decide +kernel) (by decide +kernel) (Nat.le_of_ble_eq_true rfl) (by decide +kernel) (by decide +kernel) ?_
  refine kr_put (idx := 41) (slot := 11) (v := .ref 10) (Cn := RX12) (T := TX12) (N := 143) (by decide +kernel) rfl rfl (by decide +kernel) (by decide +kernel) (fk_in7 (List.mem_of_getElem? (i := 181) rfl)) rfl (by decide +kernel) ?_
  refine kr_aload (n := 0) (by decide +kernel) rfl ?_
  refine kr_iconst (n := 2) (by decide +kernel) ?_
  refine kr_newa (at0 := .int) (t := 0) (N := 2) (ty := .int) (by decide +kernel) rfl (Or.inl ⟨rfl, rfl⟩) (fk_in1 (List.mem_of_getElem? (i := 109) rfl)) (by decide +kernel) (by decide +kernel) (Nat.le_of_ble_eq_true rfl) (by decide +kernel) (by decide +kernel) ?_
  refine kr_put (idx := 44) (slot := 12) (v := .ref 11) (Cn := RX12) (T := TX12) (N := 143) (by decide +kernel) rfl rfl (by decide +kernel) (by decide +kernel) (fk_in7 (List.mem_of_getElem? (i := 182) rfl)) rfl (by decide +kernel) ?_
  refine kr_aload (n := 0) (by decide +kernel) rfl ?_
  refine kr_iconst (n := 2) (by decide +kernel) ?_
  refine kr_newa (at0 := .int) (t := 0) (N := 2) (ty := .int) (by decide +kernel) rfl (Or.inl ⟨rfl, rfl⟩) (fk_in1 (List.mem_of_getElem? (i := 109) rfl)) (by decide +kernel) (by decide +kernel) (Nat.le_of_ble_eq_true rfl) (by decide +kernel) (by decide +kernel) ?_
  refine kr_put (idx := 47) (slot := 13) (v := .ref 12) (Cn := RX12) (T := TX12) (N := 143) (by decide +kernel) rfl rfl (by decide +kernel) (by decide +kernel) (fk_in7 (List.mem_of_getElem? (i := 183) rfl)) rfl (by decide +kernel) ?_
  refine kr_aload (n := 0) (by decide +kernel) rfl ?_
  refine kr_iconst (n := 2) (by decide +kernel) ?_
  refine kr_newa (at0 := .int) (t := 0) (N := 2) (ty := .int) (by decide +kernel) rfl (Or.inl ⟨rfl, rfl⟩) (fk_in1 (List.mem_of_getElem? (i := 109) rfl)) (by decide +kernel) (by decide +kernel) (Nat.le_of_ble_eq_true rfl) (by decide +kernel) (by decide +kernel) ?_
  refine kr_put (idx := 50) (slot := 14) (v := .ref 13) (Cn := RX12) (T := TX12) (N := 143) (by decide +kernel) rfl rfl (by decide +kernel) (by decide +kernel) (fk_in7 (List.mem_of_getElem? (i := 184) rfl)) rfl (by decide +kernel) ?_
  refine kr_aload (n := 0) (by decide +kernel) rfl ?_
  refine kr_bipush (n := 120) (by decide +kernel) (by decide +kernel) ?_
  refine kr_newa (at0 := .long) (t := 1) (N := 120) (ty := .long) (by decide +kernel) rfl (Or.inr (Or.inl ⟨rfl, rfl⟩)) (fk_in1 (List.mem_of_getElem? (i := 108) rfl)) (by decide +kernel) (by decide +kernel) (Nat.le_of_ble_eq_true rfl) (by decide +kernel) (by decide +kernel) ?_
  refine kr_put (idx := 53) (slot := 15) (v := .ref 14) (Cn := RX12) (T := TX12) (N := 143) (by decide +kernel) rfl rfl (by decide +kernel) (by decide +kernel) (fk_in7 (List.mem_of_getElem? (i := 185) rfl)) rfl (by decide +kernel) ?_
  refine kr_aload (n := 0) (by decide +kernel) rfl ?_
  refine kr_iconst (n := 2) (by decide +kernel) ?_
  refine kr_newa (at0 := .long) (t := 1) (N := 2) (ty := .long) (by decide +kernel) rfl (Or.inr (Or.inl ⟨rfl, rfl⟩)) (fk_in1 (List.mem_of_getElem? (i := 108) rfl)) (by decide +kernel) (by decide +kernel) (Nat.le_of_ble_eq_true rfl) (by decide +kernel) (by decide +kernel) ?_
  refine kr_put (idx := 57) (slot := 16) (v := .ref 15) (Cn := RX12) (T := TX12) (N := 143) (by decide +kernel) rfl rfl (by decide +kernel) (by decide +kernel) (fk_in7 (List.mem_of_getElem? (i := 186) rfl)) rfl (by decide +kernel) ?_
  refine kr_aload (n := 0) (by decide +kernel) rfl ?_
  refine kr_iconst (n := 2) (by decide +kernel) ?_
  refine kr_newa (at0 := .long) (t := 1) (N := 2) (ty := .long) (by decide +kernel) rfl (Or.inr (Or.inl ⟨rfl, rfl⟩)) (fk_in1 (List.mem_of_getElem? (i := 108) rfl)) (by decide +kernel) (by decide +kernel) (Nat.le_of_ble_eq_true rfl) (by decide +kernel) (by decide +kernel) ?_
  refine kr_put (idx := 60) (slot := 17) (v := .ref 16) (Cn := RX12) (T := TX12) (N := 143) (by decide +kernel) rfl rfl (by decide +kernel) (by decide +kernel) (fk_in7 (List.mem_of_getElem? (i := 187) rfl)) rfl (by decide +kernel) ?_
  refine kr_aload (n := 0) (by decide +kernel) rfl ?_
  refine kr_iconst (n := 2) (by decide +kernel) ?_
  refine kr_newa (at0 := .long) (t := 1) (N := 2) (ty := .long) (by decide +kernel) rfl (Or.inr (Or.inl ⟨rfl, rfl⟩)) (fk_in1 (List.mem_of_getElem? (i := 108) rfl)) (by decide +kernel) (by decide +kernel) (Nat.le_of_ble_eq_true rfl) (by decide +kernel) (by decide +kernel) ?_
  refine kr_put (idx := 63) (slot := 18) (v := .ref 17) (Cn := RX12) (T := TX12) (N := 143) (by decide +kernel) rfl rfl (by decide +kernel) (by decide +kernel) (fk_in7 (List.mem_of_getElem? (i := 188) rfl)) rfl (by decide +kernel) ?_
  refine kr_aload (n := 0) (by decide +kernel) rfl ?_
  refine kr_iconst (n := 2) (by decide +kernel) ?_
  refine kr_newa (at0 := .long) (t := 1) (N := 2) (ty := .long) (by decide +kernel) rfl (Or.inr (Or.inl ⟨rfl, rfl⟩)) (fk_in1 (List.mem_of_getElem? (i := 108) rfl)) (by decide +kernel) (by decide +kernel) (Nat.le_of_ble_eq_true rfl) (by decide +kernel) (by decide +kernel) ?_
  refine kr_put (idx := 66) (slot := 19) (v := .ref 18) (Cn := RX12) (T := TX12) (N := 143) (by decide +kernel) rfl rfl (by decide +kernel) (by decide +kernel) (fk_in7 (List.mem_of_getElem? (i := 189) rfl)) rfl (by decide +kernel) ?_
  refine kr_aload (n := 0) (by decide +kernel) rfl ?_
  refine kr_bipush (n := 120) (by decide +kernel) (by decide +kernel) ?_
  refine kr_newa (at0 := .long) (t := 1) (N := 120) (ty := .long) (by decide +kernel) rfl (Or.inr (Or.inl ⟨rfl, rfl⟩)) (fk_in1 (List.mem_of_getElem? (i := 108) rfl)) (by decide +kernel) (by decide +kernel) (Nat.le_of_ble_eq_true rfl) (by decide +kernel) (by decide +kernel) ?_
  refine kr_put (idx := 69) (slot := 20) (v := .ref 19) (Cn := RX12) (T := TX12) (N := 143) (by decide +kernel) rfl rfl (by decide +kernel) (by decide +kernel) (fk_in7 (List.mem_of_getElem? (i := 190) rfl)) rfl (by decide +kernel) ?_
  refine kr_aload (n := 0) (by decide +kernel) rfl ?_
  refine kr_bipush (n := 120) (by decide +kernel) (by decide +kernel) ?_
  refine kr_newa (at0 := .long) (t := 1) (N := 120) (ty := .long) (by decide +kernel) rfl (Or.inr (Or.inl ⟨rfl, rfl⟩)) (fk_in1 (List.mem_of_getElem? (i := 108) rfl)) (by decide +kernel) (by decide +kernel) (Nat.le_of_ble_eq_true rfl) (by decide +kernel) (by decide +kernel) ?_
  refine kr_put (idx := 72) (slot := 21) (v := .ref 20) (Cn := RX12) (T := TX12) (N := 143) (by decide +kernel) rfl rfl (by decide +kernel) (by decide +kernel) (fk_in7 (List.mem_of_getElem? (i := 191) rfl)) rfl (by decide +kernel) ?_
  refine kr_aload (n := 0) (by decide +kernel) rfl ?_
  refine kr_bipush (n := 120) (by decide +kernel) (by decide +kernel) ?_
  refine kr_newa (at0 := .long) (t := 1) (N := 120) (ty := .long) (by decide +kernel) rfl (Or.inr (Or.inl ⟨rfl, rfl⟩)) (fk_in1 (List.mem_of_getElem? (i := 108) rfl)) (by decide +kernel) (by decide +kernel) (Nat.le_of_ble_eq_true rfl) (by decide +kernel) (by decide +kernel) ?_
  refine kr_put (idx := 75) (slot := 22) (v := .ref 21) (Cn := RX12) (T := TX12) (N := 143) (by decide +kernel) rfl rfl (by decide +kernel) (by decide +kernel) (fk_in7 (List.mem_of_getElem? (i := 192) rfl)) rfl (by decide +kernel) ?_
  refine kr_aload (n := 0) (by decide +kernel) rfl ?_
  refine kr_sipush (n := 7200) (by decide +kernel) (by decide +kernel) ?_
  refine kr_newa (at0 := .long) (t := 1) (N := 7200) (ty := .long) (by decide +kernel) rfl (Or.inr (Or.inl ⟨rfl, rfl⟩)) (fk_in1 (List.mem_of_getElem? (i := 108) rfl)) (by decide +kernel) (by decide +kernel) (Nat.le_of_ble_eq_true rfl) (by decide +kernel) (by decide +kernel) ?_
  refine kr_put (idx := 78) (slot := 23) (v := .ref 22) (Cn := RX12) (T := TX12) (N := 143) (by decide +kernel) rfl rfl (by decide +kernel) (by decide +kernel) (fk_in7 (List.mem_of_getElem? (i := 193) rfl)) rfl (by decide +kernel) ?_
  refine kr_aload (n := 0) (by decide +kernel) rfl ?_
  refine kr_bipush (n := 120) (by decide +kernel) (by decide +kernel) ?_
  refine kr_newa (at0 := .int) (t := 0) (N := 120) (ty := .int) (by decide +kernel) rfl (Or.inl ⟨rfl, rfl⟩) (fk_in1 (List.mem_of_getElem? (i := 109) rfl)) (by decide +kernel) (by decide +kernel) (Nat.le_of_ble_eq_true rfl) (by decide +kernel) (by decide +kernel) ?_
  refine kr_put (idx := 81) (slot := 24) (v := .ref 23) (Cn := RX12) (T := TX12) (N := 143) (by decide +kernel) rfl rfl (by decide +kernel) (by decide +kernel) (fk_in7 (List.mem_of_getElem? (i := 194) rfl)) rfl (by decide +kernel) ?_
  refine kr_aload (n := 0) (by decide +kernel) rfl ?_
  refine kr_bipush (n := 120) (by decide +kernel) (by decide +kernel) ?_
  refine kr_newa (at0 := .int) (t := 0) (N := 120) (ty := .int) (by decide +kernel) rfl (Or.inl ⟨rfl, rfl⟩) (fk_in1 (List.mem_of_getElem? (i := 109) rfl)) (by decide +kernel) (by decide +kernel) (Nat.le_of_ble_eq_true rfl) (by decide +kernel) (by decide +kernel) ?_
  refine kr_put (idx := 84) (slot := 25) (v := .ref 24) (Cn := RX12) (T := TX12) (N := 143) (by decide +kernel) rfl rfl (by decide +kernel) (by decide +kernel) (fk_in7 (List.mem_of_getElem? (i := 195) rfl)) rfl (by decide +kernel) ?_
  refine kr_aload (n := 0) (by decide +kernel) rfl ?_
  refine kr_bipush (n := 120) (by decide +kernel) (by decide +kernel) ?_
  refine kr_newa (at0 := .int) (t := 0) (N := 120) (ty := .int) (by decide +kernel) rfl (Or.inl ⟨rfl, rfl⟩) (fk_in1 (List.mem_of_getElem? (i := 109) rfl)) (by decide +kernel) (by decide +kernel) (Nat.le_of_ble_eq_true rfl) (by decide +kernel) (by decide +kernel) ?_
  refine kr_put (idx := 87) (slot := 26) (v := .ref 25) (Cn := RX12) (T := TX12) (N := 143) (by decide +kernel) rfl rfl (by decide +kernel) (by decide +kernel) (fk_in7 (List.mem_of_getElem? (i := 196) rfl)) rfl (by decide +kernel) ?_
  refine kr_aload (n := 0) (by decide +kernel) rfl ?_
  refine kr_bipush (n := 120) (by decide +kernel) (by decide +kernel) ?_
  refine kr_newa (at0 := .int) (t := 0) (N := 120) (ty := .int) (by decide +kernel) rfl (Or.inl ⟨rfl, rfl⟩) (fk_in1 (List.mem_of_getElem? (i := 109) rfl)) (by decide +kernel) (by decide +kernel) (Nat.le_of_ble_eq_true rfl) (by decide +kernel) (by decide +kernel) ?_
  refine kr_put (idx := 90) (slot := 27) (v := .ref 26) (Cn := RX12) (T := TX12) (N := 143) (by decide +kernel) rfl rfl (by decide +kernel) (by decide +kernel) (fk_in7 (List.mem_of_getElem? (i := 197) rfl)) rfl (by decide +kernel) ?_
  refine kr_aload (n := 0) (by decide +kernel) rfl ?_
  refine kr_bipush (n := 120) (by decide +kernel) (by decide +kernel) ?_
  refine kr_newa (at0 := .int) (t := 0) (N := 120) (ty := .int) (by decide +kernel) rfl (Or.inl ⟨rfl, rfl⟩) (fk_in1 (List.mem_of_getElem? (i := 109) rfl)) (by decide +kernel) (by decide +kernel) (Nat.le_of_ble_eq_true rfl) (by decide +kernel) (by decide +kernel) ?_
  refine kr_put (idx := 93) (slot := 28) (v := .ref 27) (Cn := RX12) (T := TX12) (N := 143) (by decide +kernel) rfl rfl (by decide +kernel) (by decide +kernel) (fk_in7 (List.mem_of_getElem? (i := 198) rfl)) rfl (by decide +kernel) ?_
  refine kr_aload (n := 0) (by decide +kernel) rfl ?_
  refine kr_bipush (n := 120) (by decide +kernel) (by decide +kernel) ?_
  refine kr_newa (at0 := .int) (t := 0) (N := 120) (ty := .int) (by decide +kernel) rfl (Or.inl ⟨rfl, rfl⟩) (fk_in1 (List.mem_of_getElem? (i := 109) rfl)) (by decide +kernel) (by decide +kernel) (Nat.le_of_ble_eq_true rfl) (by decide +kernel) (by decide +kernel) ?_
  refine kr_put (idx := 96) (slot := 29) (v := .ref 28) (Cn := RX12) (T := TX12) (N := 143) (by decide +kernel) rfl rfl (by decide +kernel) (by decide +kernel) (fk_in7 (List.mem_of_getElem? (i := 199) rfl)) rfl (by decide +kernel) ?_
  refine kr_aload (n := 0) (by decide +kernel) rfl ?_
  refine kr_bipush (n := 120) (by decide +kernel) (by decide +kernel) ?_
  refine kr_newa (at0 := .int) (t := 0) (N := 120) (ty := .int) (by decide +kernel) rfl (Or.inl ⟨rfl, rfl⟩) (fk_in1 (List.mem_of_getElem? (i := 109) rfl)) (by decide +kernel) (by decide +kernel) (Nat.le_of_ble_eq_true rfl) (by decide +kernel) (by decide +kernel) ?_
  refine kr_put (idx := 99) (slot := 30) (v := .ref 29) (Cn := RX12) (T := TX12) (N := 143) (by decide +kernel) rfl rfl (by decide +kernel) (by decide +kernel) (fk_in7 (List.mem_of_getElem? (i := 200) rfl)) rfl (by decide +kernel) ?_
  refine kr_aload (n := 0) (by decide +kernel) rfl ?_
  refine kr_bipush (n := 120) (by decide +kernel) (by decide +kernel) ?_
  refine kr_newa (at0 := .int) (t := 0) (N := 120) (ty := .int) (by decide +kernel) rfl (Or.inl ⟨rfl, rfl⟩) (fk_in1 (List.mem_of_getElem? (i := 109) rfl)) (by decide +kernel) (by decide +kernel) (Nat.le_of_ble_eq_true rfl) (by decide +kernel) (by decide +kernel) ?_
  refine kr_put (idx := 102) (slot := 31) (v := .ref 30) (Cn := RX12) (T := TX12) (N := 143) (by decide +kernel) rfl rfl (by decide +kernel) (by decide +kernel) (fk_in7 (List.mem_of_getElem? (i := 201) rfl)) rfl (by decide +kernel) ?_
  refine kr_aload (n := 0) (by decide +kernel) rfl ?_
  refine kr_bipush (n := 120) (by decide +kernel) (by decide +kernel) ?_
  refine kr_newa (at0 := .int) (t := 0) (N := 120) (ty := .int) (by decide +kernel) rfl (Or.inl ⟨rfl, rfl⟩) (fk_in1 (List.mem_of_getElem? (i := 109) rfl)) (by decide +kernel) (by decide +kernel) (Nat.le_of_ble_eq_true rfl) (by decide +kernel) (by decide +kernel) ?_
  refine kr_put (idx := 105) (slot := 32) (v := .ref 31) (Cn := RX12) (T := TX12) (N := 143) (by decide +kernel) rfl rfl (by decide +kernel) (by decide +kernel) (fk_in7 (List.mem_of_getElem? (i := 202) rfl)) rfl (by decide +kernel) ?_
  refine kr_aload (n := 0) (by decide +kernel) rfl ?_
  refine kr_sipush (n := 6000) (by decide +kernel) (by decide +kernel) ?_
  refine kr_newa (at0 := .int) (t := 0) (N := 6000) (ty := .int) (by decide +kernel) rfl (Or.inl ⟨rfl, rfl⟩) (fk_in1 (List.mem_of_getElem? (i := 109) rfl)) (by decide +kernel) (by decide +kernel) (Nat.le_of_ble_eq_true rfl) (by decide +kernel) (by decide +kernel) ?_
  refine kr_put (idx := 108) (slot := 33) (v := .ref 32) (Cn := RX12) (T := TX12) (N := 143) (by decide +kernel) rfl rfl (by decide +kernel) (by decide +kernel) (fk_in7 (List.mem_of_getElem? (i := 203) rfl)) rfl (by decide +kernel) ?_
  refine kr_aload (n := 0) (by decide +kernel) rfl ?_
  refine kr_bipush (n := 120) (by decide +kernel) (by decide +kernel) ?_
  refine kr_newa (at0 := .int) (t := 0) (N := 120) (ty := .int) (by decide +kernel) rfl (Or.inl ⟨rfl, rfl⟩) (fk_in1 (List.mem_of_getElem? (i := 109) rfl)) (by decide +kernel) (by decide +kernel) (Nat.le_of_ble_eq_true rfl) (by decide +kernel) (by decide +kernel) ?_
  refine kr_put (idx := 111) (slot := 34) (v := .ref 33) (Cn := RX12) (T := TX12) (N := 143) (by decide +kernel) rfl rfl (by decide +kernel) (by decide +kernel) (fk_in7 (List.mem_of_getElem? (i := 204) rfl)) rfl (by decide +kernel) ?_
  refine kr_aload (n := 0) (by decide +kernel) rfl ?_
  refine kr_sipush (n := 8000) (by decide +kernel) (by decide +kernel) ?_
  refine kr_newa (at0 := .int) (t := 0) (N := 8000) (ty := .int) (by decide +kernel) rfl (Or.inl ⟨rfl, rfl⟩) (fk_in1 (List.mem_of_getElem? (i := 109) rfl)) (by decide +kernel) (by decide +kernel) (Nat.le_of_ble_eq_true rfl) (by decide +kernel) (by decide +kernel) ?_
  refine kr_put (idx := 114) (slot := 35) (v := .ref 34) (Cn := RX12) (T := TX12) (N := 143) (by decide +kernel) rfl rfl (by decide +kernel) (by decide +kernel) (fk_in7 (List.mem_of_getElem? (i := 205) rfl)) rfl (by decide +kernel) ?_
  refine kr_aload (n := 0) (by decide +kernel) rfl ?_
  refine kr_sipush (n := 8000) (by decide +kernel) (by decide +kernel) ?_
  refine kr_newa (at0 := .int) (t := 0) (N := 8000) (ty := .int) (by decide +kernel) rfl (Or.inl ⟨rfl, rfl⟩) (fk_in1 (List.mem_of_getElem? (i := 109) rfl)) (by decide +kernel) (by decide +kernel) (Nat.le_of_ble_eq_true rfl) (by decide +kernel) (by decide +kernel) ?_
  refine kr_put (idx := 117) (slot := 36) (v := .ref 35) (Cn := RX12) (T := TX12) (N := 143) (by decide +kernel) rfl rfl (by decide +kernel) (by decide +kernel) (fk_in7 (List.mem_of_getElem? (i := 206) rfl)) rfl (by decide +kernel) ?_
  refine kr_aload (n := 0) (by decide +kernel) rfl ?_
  refine kr_bipush (n := 21) (by decide +kernel) (by decide +kernel) ?_
  refine kr_newa (at0 := .int) (t := 0) (N := 21) (ty := .int) (by decide +kernel) rfl (Or.inl ⟨rfl, rfl⟩) (fk_in1 (List.mem_of_getElem? (i := 109) rfl)) (by decide +kernel) (by decide +kernel) (Nat.le_of_ble_eq_true rfl) (by decide +kernel) (by decide +kernel) ?_
  refine kr_put (idx := 120) (slot := 46) (v := .ref 36) (Cn := RX12) (T := TX12) (N := 143) (by decide +kernel) rfl rfl (by decide +kernel) (by decide +kernel) (fk_in7 (List.mem_of_getElem? (i := 216) rfl)) rfl (by decide +kernel) ?_
  refine kr_aload (n := 0) (by decide +kernel) rfl ?_
  refine kr_sipush (n := 4080) (by decide +kernel) (by decide +kernel) ?_
  refine kr_newa (at0 := .int) (t := 0) (N := 4080) (ty := .int) (by decide +kernel) rfl (Or.inl ⟨rfl, rfl⟩) (fk_in1 (List.mem_of_getElem? (i := 109) rfl)) (by decide +kernel) (by decide +kernel) (Nat.le_of_ble_eq_true rfl) (by decide +kernel) (by decide +kernel) ?_
  refine kr_put (idx := 123) (slot := 47) (v := .ref 37) (Cn := RX12) (T := TX12) (N := 143) (by decide +kernel) rfl rfl (by decide +kernel) (by decide +kernel) (fk_in7 (List.mem_of_getElem? (i := 217) rfl)) rfl (by decide +kernel) ?_
  refine kr_aload (n := 0) (by decide +kernel) rfl ?_
  refine kr_bipush (n := 22) (by decide +kernel) (by decide +kernel) ?_
  refine kr_newa (at0 := .int) (t := 0) (N := 22) (ty := .int) (by decide +kernel) rfl (Or.inl ⟨rfl, rfl⟩) (fk_in1 (List.mem_of_getElem? (i := 109) rfl)) (by decide +kernel) (by decide +kernel) (Nat.le_of_ble_eq_true rfl) (by decide +kernel) (by decide +kernel) ?_
  refine kr_put (idx := 126) (slot := 48) (v := .ref 38) (Cn := RX12) (T := TX12) (N := 143) (by decide +kernel) rfl rfl (by decide +kernel) (by decide +kernel) (fk_in7 (List.mem_of_getElem? (i := 218) rfl)) rfl (by decide +kernel) ?_
  refine kr_aload (n := 0) (by decide +kernel) rfl ?_
  refine kr_bipush (n := 22) (by decide +kernel) (by decide +kernel) ?_
  refine kr_newa (at0 := .int) (t := 0) (N := 22) (ty := .int) (by decide +kernel) rfl (Or.inl ⟨rfl, rfl⟩) (fk_in1 (List.mem_of_getElem? (i := 109) rfl)) (by decide +kernel) (by decide +kernel) (Nat.le_of_ble_eq_true rfl) (by decide +kernel) (by decide +kernel) ?_
  refine kr_put (idx := 129) (slot := 49) (v := .ref 39) (Cn := RX12) (T := TX12) (N := 143) (by decide +kernel) rfl rfl (by decide +kernel) (by decide +kernel) (fk_in7 (List.mem_of_getElem? (i := 219) rfl)) rfl (by decide +kernel) ?_
  refine kr_aload (n := 0) (by decide +kernel) rfl ?_
  refine kr_bipush (n := 22) (by decide +kernel) (by decide +kernel) ?_
  refine kr_newa (at0 := .int) (t := 0) (N := 22) (ty := .int) (by decide +kernel) rfl (Or.inl ⟨rfl, rfl⟩) (fk_in1 (List.mem_of_getElem? (i := 109) rfl)) (by decide +kernel) (by decide +kernel) (Nat.le_of_ble_eq_true rfl) (by decide +kernel) (by decide +kernel) ?_
  refine kr_put (idx := 132) (slot := 50) (v := .ref 40) (Cn := RX12) (T := TX12) (N := 143) (by decide +kernel) rfl rfl (by decide +kernel) (by decide +kernel) (fk_in7 (List.mem_of_getElem? (i := 220) rfl)) rfl (by decide +kernel) ?_
  refine kr_aload (n := 0) (by decide +kernel) rfl ?_
  refine kr_bipush (n := 22) (by decide +kernel) (by decide +kernel) ?_
  refine kr_newa (at0 := .int) (t := 0) (N := 22) (ty := .int) (by decide +kernel) rfl (Or.inl ⟨rfl, rfl⟩) (fk_in1 (List.mem_of_getElem? (i := 109) rfl)) (by decide +kernel) (by decide +kernel) (Nat.le_of_ble_eq_true rfl) (by decide +kernel) (by decide +kernel) ?_
  refine kr_put (idx := 135) (slot := 51) (v := .ref 41) (Cn := RX12) (T := TX12) (N := 143) (by decide +kernel) rfl rfl (by decide +kernel) (by decide +kernel) (fk_in7 (List.mem_of_getElem? (i := 221) rfl)) rfl (by decide +kernel) ?_
  refine kr_aload (n := 0) (by decide +kernel) rfl ?_
  refine kr_bipush (n := 22) (by decide +kernel) (by decide +kernel) ?_
  refine kr_newa (at0 := .boolean) (t := 3) (N := 22) (ty := .boolean) (by decide +kernel) rfl (Or.inr (Or.inr (Or.inr ⟨rfl, rfl⟩))) (fk_in2 (List.mem_of_getElem? (i := 88) rfl)) (by decide +kernel) (by decide +kernel) (Nat.le_of_ble_eq_true rfl) (by decide +kernel) (by decide +kernel) ?_
  refine kr_put (idx := 138) (slot := 52) (v := .ref 42) (Cn := RX12) (T := TX12) (N := 143) (by decide +kernel) rfl rfl (by decide +kernel) (by decide +kernel) (fk_in7 (List.mem_of_getElem? (i := 222) rfl)) rfl (by decide +kernel) ?_
  refine kr_aload (n := 0) (by decide +kernel) rfl ?_
  refine kr_bipush (n := 60) (by decide +kernel) (by decide +kernel) ?_
  refine kr_newa (at0 := .long) (t := 1) (N := 60) (ty := .long) (by decide +kernel) rfl (Or.inr (Or.inl ⟨rfl, rfl⟩)) (fk_in1 (List.mem_of_getElem? (i := 108) rfl)) (by decide +kernel) (by decide +kernel) (Nat.le_of_ble_eq_true rfl) (by decide +kernel) (by decide +kernel) ?_
  refine kr_put (idx := 142) (slot := 59) (v := .ref 43) (Cn := RX12) (T := TX12) (N := 143) (by decide +kernel) rfl rfl (by decide +kernel) (by decide +kernel) (fk_in7 (List.mem_of_getElem? (i := 229) rfl)) rfl (by decide +kernel) ?_
  refine kr_aload (n := 0) (by decide +kernel) rfl ?_
  refine kr_bipush (n := 100) (by decide +kernel) (by decide +kernel) ?_
  refine kr_newa (at0 := .int) (t := 0) (N := 100) (ty := .int) (by decide +kernel) rfl (Or.inl ⟨rfl, rfl⟩) (fk_in1 (List.mem_of_getElem? (i := 109) rfl)) (by decide +kernel) (by decide +kernel) (Nat.le_of_ble_eq_true rfl) (by decide +kernel) (by decide +kernel) ?_
  refine kr_put (idx := 145) (slot := 60) (v := .ref 44) (Cn := RX12) (T := TX12) (N := 143) (by decide +kernel) rfl rfl (by decide +kernel) (by decide +kernel) (fk_in7 (List.mem_of_getElem? (i := 230) rfl)) rfl (by decide +kernel) ?_
  refine kr_aload (n := 0) (by decide +kernel) rfl ?_
  refine kr_ldc (i := 148) (v := Int32.ofInt 131072) (by decide +kernel) (fk_in7 (List.mem_of_getElem? (i := 167) rfl)) ?_
  refine kr_newa (at0 := .int) (t := 0) (N := 131072) (ty := .int) (by decide +kernel) rfl (Or.inl ⟨rfl, rfl⟩) (fk_in1 (List.mem_of_getElem? (i := 109) rfl)) (by decide +kernel) (by decide +kernel) (Nat.le_of_ble_eq_true rfl) (by decide +kernel) (by decide +kernel) ?_
  refine kr_put (idx := 149) (slot := 61) (v := .ref 45) (Cn := RX12) (T := TX12) (N := 143) (by decide +kernel) rfl rfl (by decide +kernel) (by decide +kernel) (fk_in7 (List.mem_of_getElem? (i := 231) rfl)) rfl (by decide +kernel) ?_
  refine kr_aload (n := 0) (by decide +kernel) rfl ?_
  refine kr_bipush (n := 8) (by decide +kernel) (by decide +kernel) ?_
  refine kr_newa (at0 := .long) (t := 1) (N := 8) (ty := .long) (by decide +kernel) rfl (Or.inr (Or.inl ⟨rfl, rfl⟩)) (fk_in1 (List.mem_of_getElem? (i := 108) rfl)) (by decide +kernel) (by decide +kernel) (Nat.le_of_ble_eq_true rfl) (by decide +kernel) (by decide +kernel) ?_
  refine kr_put (idx := 152) (slot := 63) (v := .ref 46) (Cn := RX12) (T := TX12) (N := 143) (by decide +kernel) rfl rfl (by decide +kernel) (by decide +kernel) (fk_in7 (List.mem_of_getElem? (i := 233) rfl)) rfl (by decide +kernel) ?_
  refine kr_aload (n := 0) (by decide +kernel) rfl ?_
  refine kr_ldc (i := 155) (v := Int32.ofInt 140000) (by decide +kernel) (fk_in7 (List.mem_of_getElem? (i := 168) rfl)) ?_
  refine kr_newa (at0 := .long) (t := 1) (N := 140000) (ty := .long) (by decide +kernel) rfl (Or.inr (Or.inl ⟨rfl, rfl⟩)) (fk_in1 (List.mem_of_getElem? (i := 108) rfl)) (by decide +kernel) (by decide +kernel) (Nat.le_of_ble_eq_true rfl) (by decide +kernel) (by decide +kernel) ?_
  refine kr_put (idx := 156) (slot := 64) (v := .ref 47) (Cn := RX12) (T := TX12) (N := 143) (by decide +kernel) rfl rfl (by decide +kernel) (by decide +kernel) (fk_in7 (List.mem_of_getElem? (i := 234) rfl)) rfl (by decide +kernel) ?_
  refine kr_aload (n := 0) (by decide +kernel) rfl ?_
  refine kr_sipush (n := 7150) (by decide +kernel) (by decide +kernel) ?_
  refine kr_newa (at0 := .long) (t := 1) (N := 7150) (ty := .long) (by decide +kernel) rfl (Or.inr (Or.inl ⟨rfl, rfl⟩)) (fk_in1 (List.mem_of_getElem? (i := 108) rfl)) (by decide +kernel) (by decide +kernel) (Nat.le_of_ble_eq_true rfl) (by decide +kernel) (by decide +kernel) ?_
  refine kr_put (idx := 159) (slot := 65) (v := .ref 48) (Cn := RX12) (T := TX12) (N := 143) (by decide +kernel) rfl rfl (by decide +kernel) (by decide +kernel) (fk_in7 (List.mem_of_getElem? (i := 235) rfl)) rfl (by decide +kernel) ?_
  refine kr_aload (n := 0) (by decide +kernel) rfl ?_
  refine kr_sipush (n := 1365) (by decide +kernel) (by decide +kernel) ?_
  refine kr_newa (at0 := .int) (t := 0) (N := 1365) (ty := .int) (by decide +kernel) rfl (Or.inl ⟨rfl, rfl⟩) (fk_in1 (List.mem_of_getElem? (i := 109) rfl)) (by decide +kernel) (by decide +kernel) (Nat.le_of_ble_eq_true rfl) (by decide +kernel) (by decide +kernel) ?_
  refine kr_put (idx := 162) (slot := 72) (v := .ref 49) (Cn := RX12) (T := TX12) (N := 143) (by decide +kernel) rfl rfl (by decide +kernel) (by decide +kernel) (fk_in8 (List.mem_of_getElem? (i := 2) rfl)) rfl (by decide +kernel) ?_
  refine kr_aload (n := 0) (by decide +kernel) rfl ?_
  refine kr_sipush (n := 1365) (by decide +kernel) (by decide +kernel) ?_
  refine kr_newa (at0 := .int) (t := 0) (N := 1365) (ty := .int) (by decide +kernel) rfl (Or.inl ⟨rfl, rfl⟩) (fk_in1 (List.mem_of_getElem? (i := 109) rfl)) (by decide +kernel) (by decide +kernel) (Nat.le_of_ble_eq_true rfl) (by decide +kernel) (by decide +kernel) ?_
  refine kr_put (idx := 165) (slot := 73) (v := .ref 50) (Cn := RX12) (T := TX12) (N := 143) (by decide +kernel) rfl rfl (by decide +kernel) (by decide +kernel) (fk_in8 (List.mem_of_getElem? (i := 3) rfl)) rfl (by decide +kernel) ?_
  refine kr_aload (n := 0) (by decide +kernel) rfl ?_
  refine kr_sipush (n := 4000) (by decide +kernel) (by decide +kernel) ?_
  refine kr_newa (at0 := .int) (t := 0) (N := 4000) (ty := .int) (by decide +kernel) rfl (Or.inl ⟨rfl, rfl⟩) (fk_in1 (List.mem_of_getElem? (i := 109) rfl)) (by decide +kernel) (by decide +kernel) (Nat.le_of_ble_eq_true rfl) (by decide +kernel) (by decide +kernel) ?_
  refine kr_put (idx := 168) (slot := 78) (v := .ref 51) (Cn := RX12) (T := TX12) (N := 143) (by decide +kernel) rfl rfl (by decide +kernel) (by decide +kernel) (fk_in8 (List.mem_of_getElem? (i := 8) rfl)) rfl (by decide +kernel) ?_
  refine kr_aload (n := 0) (by decide +kernel) rfl ?_
  refine kr_bipush (n := 20) (by decide +kernel) (by decide +kernel) ?_
  refine kr_newa (at0 := .int) (t := 0) (N := 20) (ty := .int) (by decide +kernel) rfl (Or.inl ⟨rfl, rfl⟩) (fk_in1 (List.mem_of_getElem? (i := 109) rfl)) (by decide +kernel) (by decide +kernel) (Nat.le_of_ble_eq_true rfl) (by decide +kernel) (by decide +kernel) ?_
  refine kr_put (idx := 171) (slot := 88) (v := .ref 52) (Cn := RX12) (T := TX12) (N := 143) (by decide +kernel) rfl rfl (by decide +kernel) (by decide +kernel) (fk_in8 (List.mem_of_getElem? (i := 18) rfl)) rfl (by decide +kernel) ?_
  refine kr_aload (n := 0) (by decide +kernel) rfl ?_
  refine kr_bipush (n := 20) (by decide +kernel) (by decide +kernel) ?_
  refine kr_newa (at0 := .int) (t := 0) (N := 20) (ty := .int) (by decide +kernel) rfl (Or.inl ⟨rfl, rfl⟩) (fk_in1 (List.mem_of_getElem? (i := 109) rfl)) (by decide +kernel) (by decide +kernel) (Nat.le_of_ble_eq_true rfl) (by decide +kernel) (by decide +kernel) ?_
  refine kr_put (idx := 174) (slot := 89) (v := .ref 53) (Cn := RX12) (T := TX12) (N := 143) (by decide +kernel) rfl rfl (by decide +kernel) (by decide +kernel) (fk_in8 (List.mem_of_getElem? (i := 19) rfl)) rfl (by decide +kernel) ?_
  refine kr_aload (n := 0) (by decide +kernel) rfl ?_
  refine kr_bipush (n := 20) (by decide +kernel) (by decide +kernel) ?_
  refine kr_newa (at0 := .int) (t := 0) (N := 20) (ty := .int) (by decide +kernel) rfl (Or.inl ⟨rfl, rfl⟩) (fk_in1 (List.mem_of_getElem? (i := 109) rfl)) (by decide +kernel) (by decide +kernel) (Nat.le_of_ble_eq_true rfl) (by decide +kernel) (by decide +kernel) ?_
  refine kr_put (idx := 177) (slot := 90) (v := .ref 54) (Cn := RX12) (T := TX12) (N := 143) (by decide +kernel) rfl rfl (by decide +kernel) (by decide +kernel) (fk_in8 (List.mem_of_getElem? (i := 20) rfl)) rfl (by decide +kernel) ?_
  refine kr_aload (n := 0) (by decide +kernel) rfl ?_
  refine kr_bipush (n := 20) (by decide +kernel) (by decide +kernel) ?_
  refine kr_newa (at0 := .int) (t := 0) (N := 20) (ty := .int) (by decide +kernel) rfl (Or.inl ⟨rfl, rfl⟩) (fk_in1 (List.mem_of_getElem? (i := 109) rfl)) (by decide +kernel) (by decide +kernel) (Nat.le_of_ble_eq_true rfl) (by decide +kernel) (by decide +kernel) ?_
  refine kr_put (idx := 180) (slot := 91) (v := .ref 55) (Cn := RX12) (T := TX12) (N := 143) (by decide +kernel) rfl rfl (by decide +kernel) (by decide +kernel) (fk_in8 (List.mem_of_getElem? (i := 21) rfl)) rfl (by decide +kernel) ?_
  refine kr_aload (n := 0) (by decide +kernel) rfl ?_
  refine kr_bipush (n := 20) (by decide +kernel) (by decide +kernel) ?_
  refine kr_newa (at0 := .int) (t := 0) (N := 20) (ty := .int) (by decide +kernel) rfl (Or.inl ⟨rfl, rfl⟩) (fk_in1 (List.mem_of_getElem? (i := 109) rfl)) (by decide +kernel) (by decide +kernel) (Nat.le_of_ble_eq_true rfl) (by decide +kernel) (by decide +kernel) ?_
  refine kr_put (idx := 183) (slot := 92) (v := .ref 56) (Cn := RX12) (T := TX12) (N := 143) (by decide +kernel) rfl rfl (by decide +kernel) (by decide +kernel) (fk_in8 (List.mem_of_getElem? (i := 22) rfl)) rfl (by decide +kernel) ?_
  refine kr_aload (n := 0) (by decide +kernel) rfl ?_
  refine kr_bipush (n := 20) (by decide +kernel) (by decide +kernel) ?_
  refine kr_newa (at0 := .int) (t := 0) (N := 20) (ty := .int) (by decide +kernel) rfl (Or.inl ⟨rfl, rfl⟩) (fk_in1 (List.mem_of_getElem? (i := 109) rfl)) (by decide +kernel) (by decide +kernel) (Nat.le_of_ble_eq_true rfl) (by decide +kernel) (by decide +kernel) ?_
  refine kr_put (idx := 186) (slot := 93) (v := .ref 57) (Cn := RX12) (T := TX12) (N := 143) (by decide +kernel) rfl rfl (by decide +kernel) (by decide +kernel) (fk_in8 (List.mem_of_getElem? (i := 23) rfl)) rfl (by decide +kernel) ?_
  refine kr_aload (n := 0) (by decide +kernel) rfl ?_
  refine kr_bipush (n := 80) (by decide +kernel) (by decide +kernel) ?_
  refine kr_newa (at0 := .int) (t := 0) (N := 80) (ty := .int) (by decide +kernel) rfl (Or.inl ⟨rfl, rfl⟩) (fk_in1 (List.mem_of_getElem? (i := 109) rfl)) (by decide +kernel) (by decide +kernel) (Nat.le_of_ble_eq_true rfl) (by decide +kernel) (by decide +kernel) ?_
  refine kr_put (idx := 189) (slot := 94) (v := .ref 58) (Cn := RX12) (T := TX12) (N := 143) (by decide +kernel) rfl rfl (by decide +kernel) (by decide +kernel) (fk_in8 (List.mem_of_getElem? (i := 24) rfl)) rfl (by decide +kernel) ?_
  refine kr_aload (n := 0) (by decide +kernel) rfl ?_
  refine kr_bipush (n := 80) (by decide +kernel) (by decide +kernel) ?_
  refine kr_newa (at0 := .int) (t := 0) (N := 80) (ty := .int) (by decide +kernel) rfl (Or.inl ⟨rfl, rfl⟩) (fk_in1 (List.mem_of_getElem? (i := 109) rfl)) (by decide +kernel) (by decide +kernel) (Nat.le_of_ble_eq_true rfl) (by decide +kernel) (by decide +kernel) ?_
  refine kr_put (idx := 192) (slot := 95) (v := .ref 59) (Cn := RX12) (T := TX12) (N := 143) (by decide +kernel) rfl rfl (by decide +kernel) (by decide +kernel) (fk_in8 (List.mem_of_getElem? (i := 25) rfl)) rfl (by decide +kernel) ?_
  refine kr_aload (n := 0) (by decide +kernel) rfl ?_
  refine kr_bipush (n := 80) (by decide +kernel) (by decide +kernel) ?_
  refine kr_newa (at0 := .int) (t := 0) (N := 80) (ty := .int) (by decide +kernel) rfl (Or.inl ⟨rfl, rfl⟩) (fk_in1 (List.mem_of_getElem? (i := 109) rfl)) (by decide +kernel) (by decide +kernel) (Nat.le_of_ble_eq_true rfl) (by decide +kernel) (by decide +kernel) ?_
  refine kr_put (idx := 195) (slot := 96) (v := .ref 60) (Cn := RX12) (T := TX12) (N := 143) (by decide +kernel) rfl rfl (by decide +kernel) (by decide +kernel) (fk_in8 (List.mem_of_getElem? (i := 26) rfl)) rfl (by decide +kernel) ?_
  refine kr_aload (n := 0) (by decide +kernel) rfl ?_
  refine kr_sipush (n := 3000) (by decide +kernel) (by decide +kernel) ?_
  refine kr_newa (at0 := .int) (t := 0) (N := 3000) (ty := .int) (by decide +kernel) rfl (Or.inl ⟨rfl, rfl⟩) (fk_in1 (List.mem_of_getElem? (i := 109) rfl)) (by decide +kernel) (by decide +kernel) (Nat.le_of_ble_eq_true rfl) (by decide +kernel) (by decide +kernel) ?_
  refine kr_put (idx := 198) (slot := 98) (v := .ref 61) (Cn := RX12) (T := TX12) (N := 143) (by decide +kernel) rfl rfl (by decide +kernel) (by decide +kernel) (fk_in8 (List.mem_of_getElem? (i := 28) rfl)) rfl (by decide +kernel) ?_
  refine kr_aload (n := 0) (by decide +kernel) rfl ?_
  refine kr_sipush (n := 3000) (by decide +kernel) (by decide +kernel) ?_
  refine kr_newa (at0 := .int) (t := 0) (N := 3000) (ty := .int) (by decide +kernel) rfl (Or.inl ⟨rfl, rfl⟩) (fk_in1 (List.mem_of_getElem? (i := 109) rfl)) (by decide +kernel) (by decide +kernel) (Nat.le_of_ble_eq_true rfl) (by decide +kernel) (by decide +kernel) ?_
  refine kr_put (idx := 201) (slot := 99) (v := .ref 62) (Cn := RX12) (T := TX12) (N := 143) (by decide +kernel) rfl rfl (by decide +kernel) (by decide +kernel) (fk_in8 (List.mem_of_getElem? (i := 29) rfl)) rfl (by decide +kernel) ?_
  refine kr_aload (n := 0) (by decide +kernel) rfl ?_
  refine kr_sipush (n := 3000) (by decide +kernel) (by decide +kernel) ?_
  refine kr_newa (at0 := .int) (t := 0) (N := 3000) (ty := .int) (by decide +kernel) rfl (Or.inl ⟨rfl, rfl⟩) (fk_in1 (List.mem_of_getElem? (i := 109) rfl)) (by decide +kernel) (by decide +kernel) (Nat.le_of_ble_eq_true rfl) (by decide +kernel) (by decide +kernel) ?_
  refine kr_put (idx := 204) (slot := 100) (v := .ref 63) (Cn := RX12) (T := TX12) (N := 143) (by decide +kernel) rfl rfl (by decide +kernel) (by decide +kernel) (fk_in8 (List.mem_of_getElem? (i := 30) rfl)) rfl (by decide +kernel) ?_
  refine kr_aload (n := 0) (by decide +kernel) rfl ?_
  refine kr_sipush (n := 3000) (by decide +kernel) (by decide +kernel) ?_
  refine kr_newa (at0 := .int) (t := 0) (N := 3000) (ty := .int) (by decide +kernel) rfl (Or.inl ⟨rfl, rfl⟩) (fk_in1 (List.mem_of_getElem? (i := 109) rfl)) (by decide +kernel) (by decide +kernel) (Nat.le_of_ble_eq_true rfl) (by decide +kernel) (by decide +kernel) ?_
  refine kr_put (idx := 207) (slot := 101) (v := .ref 64) (Cn := RX12) (T := TX12) (N := 143) (by decide +kernel) rfl rfl (by decide +kernel) (by decide +kernel) (fk_in8 (List.mem_of_getElem? (i := 31) rfl)) rfl (by decide +kernel) ?_
  refine kr_aload (n := 0) (by decide +kernel) rfl ?_
  refine kr_sipush (n := 3000) (by decide +kernel) (by decide +kernel) ?_
  refine kr_newa (at0 := .int) (t := 0) (N := 3000) (ty := .int) (by decide +kernel) rfl (Or.inl ⟨rfl, rfl⟩) (fk_in1 (List.mem_of_getElem? (i := 109) rfl)) (by decide +kernel) (by decide +kernel) (Nat.le_of_ble_eq_true rfl) (by decide +kernel) (by decide +kernel) ?_
  refine kr_put (idx := 210) (slot := 102) (v := .ref 65) (Cn := RX12) (T := TX12) (N := 143) (by decide +kernel) rfl rfl (by decide +kernel) (by decide +kernel) (fk_in8 (List.mem_of_getElem? (i := 32) rfl)) rfl (by decide +kernel) ?_
  refine kr_aload (n := 0) (by decide +kernel) rfl ?_
  refine kr_sipush (n := 3000) (by decide +kernel) (by decide +kernel) ?_
  refine kr_newa (at0 := .int) (t := 0) (N := 3000) (ty := .int) (by decide +kernel) rfl (Or.inl ⟨rfl, rfl⟩) (fk_in1 (List.mem_of_getElem? (i := 109) rfl)) (by decide +kernel) (by decide +kernel) (Nat.le_of_ble_eq_true rfl) (by decide +kernel) (by decide +kernel) ?_
  refine kr_put (idx := 213) (slot := 103) (v := .ref 66) (Cn := RX12) (T := TX12) (N := 143) (by decide +kernel) rfl rfl (by decide +kernel) (by decide +kernel) (fk_in8 (List.mem_of_getElem? (i := 33) rfl)) rfl (by decide +kernel) ?_
  refine kr_aload (n := 0) (by decide +kernel) rfl ?_
  refine kr_sipush (n := 3000) (by decide +kernel) (by decide +kernel) ?_
  refine kr_newa (at0 := .int) (t := 0) (N := 3000) (ty := .int) (by decide +kernel) rfl (Or.inl ⟨rfl, rfl⟩) (fk_in1 (List.mem_of_getElem? (i := 109) rfl)) (by decide +kernel) (by decide +kernel) (Nat.le_of_ble_eq_true rfl) (by decide +kernel) (by decide +kernel) ?_
  refine kr_put (idx := 216) (slot := 104) (v := .ref 67) (Cn := RX12) (T := TX12) (N := 143) (by decide +kernel) rfl rfl (by decide +kernel) (by decide +kernel) (fk_in8 (List.mem_of_getElem? (i := 34) rfl)) rfl (by decide +kernel) ?_
  refine kr_aload (n := 0) (by decide +kernel) rfl ?_
  refine kr_sipush (n := 3000) (by decide +kernel) (by decide +kernel) ?_
  refine kr_newa (at0 := .int) (t := 0) (N := 3000) (ty := .int) (by decide +kernel) rfl (Or.inl ⟨rfl, rfl⟩) (fk_in1 (List.mem_of_getElem? (i := 109) rfl)) (by decide +kernel) (by decide +kernel) (Nat.le_of_ble_eq_true rfl) (by decide +kernel) (by decide +kernel) ?_
  refine kr_put (idx := 219) (slot := 105) (v := .ref 68) (Cn := RX12) (T := TX12) (N := 143) (by decide +kernel) rfl rfl (by decide +kernel) (by decide +kernel) (fk_in8 (List.mem_of_getElem? (i := 35) rfl)) rfl (by decide +kernel) ?_
  refine kr_aload (n := 0) (by decide +kernel) rfl ?_
  refine kr_sipush (n := 3000) (by decide +kernel) (by decide +kernel) ?_
  refine kr_newa (at0 := .int) (t := 0) (N := 3000) (ty := .int) (by decide +kernel) rfl (Or.inl ⟨rfl, rfl⟩) (fk_in1 (List.mem_of_getElem? (i := 109) rfl)) (by decide +kernel) (by decide +kernel) (Nat.le_of_ble_eq_true rfl) (by decide +kernel) (by decide +kernel) ?_
  refine kr_put (idx := 222) (slot := 106) (v := .ref 69) (Cn := RX12) (T := TX12) (N := 143) (by decide +kernel) rfl rfl (by decide +kernel) (by decide +kernel) (fk_in8 (List.mem_of_getElem? (i := 36) rfl)) rfl (by decide +kernel) ?_
  refine kr_aload (n := 0) (by decide +kernel) rfl ?_
  refine kr_sipush (n := 3000) (by decide +kernel) (by decide +kernel) ?_
  refine kr_newa (at0 := .int) (t := 0) (N := 3000) (ty := .int) (by decide +kernel) rfl (Or.inl ⟨rfl, rfl⟩) (fk_in1 (List.mem_of_getElem? (i := 109) rfl)) (by decide +kernel) (by decide +kernel) (Nat.le_of_ble_eq_true rfl) (by decide +kernel) (by decide +kernel) ?_
  refine kr_put (idx := 225) (slot := 107) (v := .ref 70) (Cn := RX12) (T := TX12) (N := 143) (by decide +kernel) rfl rfl (by decide +kernel) (by decide +kernel) (fk_in8 (List.mem_of_getElem? (i := 37) rfl)) rfl (by decide +kernel) ?_
  refine kr_aload (n := 0) (by decide +kernel) rfl ?_
  refine kr_sipush (n := 3000) (by decide +kernel) (by decide +kernel) ?_
  refine kr_newa (at0 := .int) (t := 0) (N := 3000) (ty := .int) (by decide +kernel) rfl (Or.inl ⟨rfl, rfl⟩) (fk_in1 (List.mem_of_getElem? (i := 109) rfl)) (by decide +kernel) (by decide +kernel) (Nat.le_of_ble_eq_true rfl) (by decide +kernel) (by decide +kernel) ?_
  refine kr_put (idx := 228) (slot := 108) (v := .ref 71) (Cn := RX12) (T := TX12) (N := 143) (by decide +kernel) rfl rfl (by decide +kernel) (by decide +kernel) (fk_in8 (List.mem_of_getElem? (i := 38) rfl)) rfl (by decide +kernel) ?_
  refine kr_aload (n := 0) (by decide +kernel) rfl ?_
  refine kr_sipush (n := 3000) (by decide +kernel) (by decide +kernel) ?_
  refine kr_newa (at0 := .int) (t := 0) (N := 3000) (ty := .int) (by decide +kernel) rfl (Or.inl ⟨rfl, rfl⟩) (fk_in1 (List.mem_of_getElem? (i := 109) rfl)) (by decide +kernel) (by decide +kernel) (Nat.le_of_ble_eq_true rfl) (by decide +kernel) (by decide +kernel) ?_
  refine kr_put (idx := 231) (slot := 109) (v := .ref 72) (Cn := RX12) (T := TX12) (N := 143) (by decide +kernel) rfl rfl (by decide +kernel) (by decide +kernel) (fk_in8 (List.mem_of_getElem? (i := 39) rfl)) rfl (by decide +kernel) ?_
  refine kr_aload (n := 0) (by decide +kernel) rfl ?_
  refine kr_sipush (n := 3000) (by decide +kernel) (by decide +kernel) ?_
  refine kr_newa (at0 := .int) (t := 0) (N := 3000) (ty := .int) (by decide +kernel) rfl (Or.inl ⟨rfl, rfl⟩) (fk_in1 (List.mem_of_getElem? (i := 109) rfl)) (by decide +kernel) (by decide +kernel) (Nat.le_of_ble_eq_true rfl) (by decide +kernel) (by decide +kernel) ?_
  refine kr_put (idx := 234) (slot := 110) (v := .ref 73) (Cn := RX12) (T := TX12) (N := 143) (by decide +kernel) rfl rfl (by decide +kernel) (by decide +kernel) (fk_in8 (List.mem_of_getElem? (i := 40) rfl)) rfl (by decide +kernel) ?_
  refine kr_aload (n := 0) (by decide +kernel) rfl ?_
  refine kr_sipush (n := 3000) (by decide +kernel) (by decide +kernel) ?_
  refine kr_newa (at0 := .int) (t := 0) (N := 3000) (ty := .int) (by decide +kernel) rfl (Or.inl ⟨rfl, rfl⟩) (fk_in1 (List.mem_of_getElem? (i := 109) rfl)) (by decide +kernel) (by decide +kernel) (Nat.le_of_ble_eq_true rfl) (by decide +kernel) (by decide +kernel) ?_
  refine kr_put (idx := 237) (slot := 114) (v := .ref 74) (Cn := RX12) (T := TX12) (N := 143) (by decide +kernel) rfl rfl (by decide +kernel) (by decide +kernel) (fk_in8 (List.mem_of_getElem? (i := 44) rfl)) rfl (by decide +kernel) ?_
  refine kr_aload (n := 0) (by decide +kernel) rfl ?_
  refine kr_sipush (n := 3000) (by decide +kernel) (by decide +kernel) ?_
  refine kr_newa (at0 := .int) (t := 0) (N := 3000) (ty := .int) (by decide +kernel) rfl (Or.inl ⟨rfl, rfl⟩) (fk_in1 (List.mem_of_getElem? (i := 109) rfl)) (by decide +kernel) (by decide +kernel) (Nat.le_of_ble_eq_true rfl) (by decide +kernel) (by decide +kernel) ?_
  refine kr_put (idx := 240) (slot := 115) (v := .ref 75) (Cn := RX12) (T := TX12) (N := 143) (by decide +kernel) rfl rfl (by decide +kernel) (by decide +kernel) (fk_in8 (List.mem_of_getElem? (i := 45) rfl)) rfl (by decide +kernel) ?_
  refine kr_aload (n := 0) (by decide +kernel) rfl ?_
  refine kr_sipush (n := 3000) (by decide +kernel) (by decide +kernel) ?_
  refine kr_newa (at0 := .int) (t := 0) (N := 3000) (ty := .int) (by decide +kernel) rfl (Or.inl ⟨rfl, rfl⟩) (fk_in1 (List.mem_of_getElem? (i := 109) rfl)) (by decide +kernel) (by decide +kernel) (Nat.le_of_ble_eq_true rfl) (by decide +kernel) (by decide +kernel) ?_
  refine kr_put (idx := 243) (slot := 116) (v := .ref 76) (Cn := RX12) (T := TX12) (N := 143) (by decide +kernel) rfl rfl (by decide +kernel) (by decide +kernel) (fk_in8 (List.mem_of_getElem? (i := 46) rfl)) rfl (by decide +kernel) ?_
  refine kr_aload (n := 0) (by decide +kernel) rfl ?_
  refine kr_sipush (n := 4000) (by decide +kernel) (by decide +kernel) ?_
  refine kr_newa (at0 := .int) (t := 0) (N := 4000) (ty := .int) (by decide +kernel) rfl (Or.inl ⟨rfl, rfl⟩) (fk_in1 (List.mem_of_getElem? (i := 109) rfl)) (by decide +kernel) (by decide +kernel) (Nat.le_of_ble_eq_true rfl) (by decide +kernel) (by decide +kernel) ?_
  refine kr_put (idx := 246) (slot := 119) (v := .ref 77) (Cn := RX12) (T := TX12) (N := 143) (by decide +kernel) rfl rfl (by decide +kernel) (by decide +kernel) (fk_in8 (List.mem_of_getElem? (i := 49) rfl)) rfl (by decide +kernel) ?_
  refine kr_aload (n := 0) (by decide +kernel) rfl ?_
  refine kr_sipush (n := 4000) (by decide +kernel) (by decide +kernel) ?_
  refine kr_newa (at0 := .int) (t := 0) (N := 4000) (ty := .int) (by decide +kernel) rfl (Or.inl ⟨rfl, rfl⟩) (fk_in1 (List.mem_of_getElem? (i := 109) rfl)) (by decide +kernel) (by decide +kernel) (Nat.le_of_ble_eq_true rfl) (by decide +kernel) (by decide +kernel) ?_
  refine kr_put (idx := 249) (slot := 120) (v := .ref 78) (Cn := RX12) (T := TX12) (N := 143) (by decide +kernel) rfl rfl (by decide +kernel) (by decide +kernel) (fk_in8 (List.mem_of_getElem? (i := 50) rfl)) rfl (by decide +kernel) ?_
  refine kr_aload (n := 0) (by decide +kernel) rfl ?_
  refine kr_sipush (n := 4000) (by decide +kernel) (by decide +kernel) ?_
  refine kr_newa (at0 := .int) (t := 0) (N := 4000) (ty := .int) (by decide +kernel) rfl (Or.inl ⟨rfl, rfl⟩) (fk_in1 (List.mem_of_getElem? (i := 109) rfl)) (by decide +kernel) (by decide +kernel) (Nat.le_of_ble_eq_true rfl) (by decide +kernel) (by decide +kernel) ?_
  refine kr_put (idx := 252) (slot := 121) (v := .ref 79) (Cn := RX12) (T := TX12) (N := 143) (by decide +kernel) rfl rfl (by decide +kernel) (by decide +kernel) (fk_in8 (List.mem_of_getElem? (i := 51) rfl)) rfl (by decide +kernel) ?_
  refine kr_aload (n := 0) (by decide +kernel) rfl ?_
  refine kr_bipush (n := 20) (by decide +kernel) (by decide +kernel) ?_
  refine kr_newa (at0 := .int) (t := 0) (N := 20) (ty := .int) (by decide +kernel) rfl (Or.inl ⟨rfl, rfl⟩) (fk_in1 (List.mem_of_getElem? (i := 109) rfl)) (by decide +kernel) (by decide +kernel) (Nat.le_of_ble_eq_true rfl) (by decide +kernel) (by decide +kernel) ?_
  refine kr_put (idx := 255) (slot := 122) (v := .ref 80) (Cn := RX12) (T := TX12) (N := 143) (by decide +kernel) rfl rfl (by decide +kernel) (by decide +kernel) (fk_in8 (List.mem_of_getElem? (i := 52) rfl)) rfl (by decide +kernel) ?_
  refine kr_aload (n := 0) (by decide +kernel) rfl ?_
  refine kr_bipush (n := 20) (by decide +kernel) (by decide +kernel) ?_
  refine kr_newa (at0 := .int) (t := 0) (N := 20) (ty := .int) (by decide +kernel) rfl (Or.inl ⟨rfl, rfl⟩) (fk_in1 (List.mem_of_getElem? (i := 109) rfl)) (by decide +kernel) (by decide +kernel) (Nat.le_of_ble_eq_true rfl) (by decide +kernel) (by decide +kernel) ?_
  refine kr_put (idx := 258) (slot := 123) (v := .ref 81) (Cn := RX12) (T := TX12) (N := 143) (by decide +kernel) rfl rfl (by decide +kernel) (by decide +kernel) (fk_in8 (List.mem_of_getElem? (i := 53) rfl)) rfl (by decide +kernel) ?_
  refine kr_aload (n := 0) (by decide +kernel) rfl ?_
  refine kr_bipush (n := 20) (by decide +kernel) (by decide +kernel) ?_
  refine kr_newa (at0 := .int) (t := 0) (N := 20) (ty := .int) (by decide +kernel) rfl (Or.inl ⟨rfl, rfl⟩) (fk_in1 (List.mem_of_getElem? (i := 109) rfl)) (by decide +kernel) (by decide +kernel) (Nat.le_of_ble_eq_true rfl) (by decide +kernel) (by decide +kernel) ?_
  refine kr_put (idx := 261) (slot := 124) (v := .ref 82) (Cn := RX12) (T := TX12) (N := 143) (by decide +kernel) rfl rfl (by decide +kernel) (by decide +kernel) (fk_in8 (List.mem_of_getElem? (i := 54) rfl)) rfl (by decide +kernel) ?_
  refine kr_aload (n := 0) (by decide +kernel) rfl ?_
  refine kr_ldcw (i := 264) (v := Int32.ofInt 40000) (by decide +kernel) (fk_in7 (List.mem_of_getElem? (i := 169) rfl)) ?_
  refine kr_newa (at0 := .int) (t := 0) (N := 40000) (ty := .int) (by decide +kernel) rfl (Or.inl ⟨rfl, rfl⟩) (fk_in1 (List.mem_of_getElem? (i := 109) rfl)) (by decide +kernel) (by decide +kernel) (Nat.le_of_ble_eq_true rfl) (by decide +kernel) (by decide +kernel) ?_
  refine kr_put (idx := 265) (slot := 127) (v := .ref 83) (Cn := RX12) (T := TX12) (N := 143) (by decide +kernel) rfl rfl (by decide +kernel) (by decide +kernel) (fk_in8 (List.mem_of_getElem? (i := 57) rfl)) rfl (by decide +kernel) ?_
  refine kr_aload (n := 0) (by decide +kernel) rfl ?_
  refine kr_sipush (n := 30500) (by decide +kernel) (by decide +kernel) ?_
  refine kr_newa (at0 := .int) (t := 0) (N := 30500) (ty := .int) (by decide +kernel) rfl (Or.inl ⟨rfl, rfl⟩) (fk_in1 (List.mem_of_getElem? (i := 109) rfl)) (by decide +kernel) (by decide +kernel) (Nat.le_of_ble_eq_true rfl) (by decide +kernel) (by decide +kernel) ?_
  refine kr_put (idx := 268) (slot := 128) (v := .ref 84) (Cn := RX12) (T := TX12) (N := 143) (by decide +kernel) rfl rfl (by decide +kernel) (by decide +kernel) (fk_in8 (List.mem_of_getElem? (i := 58) rfl)) rfl (by decide +kernel) ?_
  refine kr_aload (n := 0) (by decide +kernel) rfl ?_
  refine kr_bipush (n := 61) (by decide +kernel) (by decide +kernel) ?_
  refine kr_newa (at0 := .int) (t := 0) (N := 61) (ty := .int) (by decide +kernel) rfl (Or.inl ⟨rfl, rfl⟩) (fk_in1 (List.mem_of_getElem? (i := 109) rfl)) (by decide +kernel) (by decide +kernel) (Nat.le_of_ble_eq_true rfl) (by decide +kernel) (by decide +kernel) ?_
  refine kr_put (idx := 271) (slot := 129) (v := .ref 85) (Cn := RX12) (T := TX12) (N := 143) (by decide +kernel) rfl rfl (by decide +kernel) (by decide +kernel) (fk_in8 (List.mem_of_getElem? (i := 59) rfl)) rfl (by decide +kernel) ?_
  refine kr_aload (n := 0) (by decide +kernel) rfl ?_
  refine kr_sipush (n := 500) (by decide +kernel) (by decide +kernel) ?_
  refine kr_newa (at0 := .int) (t := 0) (N := 500) (ty := .int) (by decide +kernel) rfl (Or.inl ⟨rfl, rfl⟩) (fk_in1 (List.mem_of_getElem? (i := 109) rfl)) (by decide +kernel) (by decide +kernel) (Nat.le_of_ble_eq_true rfl) (by decide +kernel) (by decide +kernel) ?_
  refine kr_put (idx := 274) (slot := 130) (v := .ref 86) (Cn := RX12) (T := TX12) (N := 143) (by decide +kernel) rfl rfl (by decide +kernel) (by decide +kernel) (fk_in8 (List.mem_of_getElem? (i := 60) rfl)) rfl (by decide +kernel) ?_
  refine kr_aload (n := 0) (by decide +kernel) rfl ?_
  refine kr_sipush (n := 500) (by decide +kernel) (by decide +kernel) ?_
  refine kr_newa (at0 := .int) (t := 0) (N := 500) (ty := .int) (by decide +kernel) rfl (Or.inl ⟨rfl, rfl⟩) (fk_in1 (List.mem_of_getElem? (i := 109) rfl)) (by decide +kernel) (by decide +kernel) (Nat.le_of_ble_eq_true rfl) (by decide +kernel) (by decide +kernel) ?_
  refine kr_put (idx := 277) (slot := 131) (v := .ref 87) (Cn := RX12) (T := TX12) (N := 143) (by decide +kernel) rfl rfl (by decide +kernel) (by decide +kernel) (fk_in8 (List.mem_of_getElem? (i := 61) rfl)) rfl (by decide +kernel) ?_
  exact kr_ret (by decide +kernel) rfl (by decide +kernel) (by decide +kernel) (by decide +kernel)
