def B_Scan_begin : fkB := [(0, [(.aload_n 0, 1, []), (.aload_n 1, 1, []), (.putfield 9, 3, [10, 0, 508, 0]), (.aload_n 0, 1, []), (.iconst 0, 1, []), (.putfield 15, 3, [10, 1, 510, 0]), (.aload_n 0, 1, []), (.iload_n 2, 1, []), (.aload_n 1, 1, []), (.arraylength, 1, []), (.invokestatic 28, 3, [1002, 0, 959]), (.putfield 19, 3, [10, 2, 513, 0]), (.aload_n 0, 1, []), (.iconst 0, 1, []), (.putfield 22, 3, [10, 3, 516, 0]), (.aload_n 0, 1, []), (.iconst (-1), 1, []), (.putfield 25, 3, [10, 4, 518, 0]), (.return_, 1, [])])]
set_option maxRecDepth 100000 in
theorem ok_Scan_begin : fk_okM 18 B_Scan_begin = true := by decide +kernel
abbrev C_Scan_begin : fkC := []
set_option maxRecDepth 100000 in
set_option maxHeartbeats 4000000 in
theorem S_Scan_begin {d : Nat} {a1 : Int32} {σ : fkS} {Q : Option Value → fkS → Prop} 
  (h : Q none (sI (sI (sI (sI (sR σ 46 0 26) 46 1 (0 : Int32)) 46 2 (if (4000 : Int32) < a1 then (4000 : Int32) else a1)) 46 3 (0 : Int32)) 46 4 (-1 : Int32))) :
  Cl (d + 1) 18 [.ref 46, .ref 25, .int a1] σ Q := by
  exact Cl.run B_Scan_begin C_Scan_begin 4 fk_q18 ok_Scan_begin rfl h
def B_Scan_fine : fkB := [(0, [(.aload_n 0, 1, []), (.getfield 22, 3, [10, 3, 516, 0]), (.ifCond .ne 7, 3, [11])]),
  (7, [(.iconst 1, 1, []), (.goto 4, 3, [12])]),
  (11, [(.iconst 0, 1, [])]),
  (12, [(.ireturn, 1, [])])]
set_option maxRecDepth 100000 in
theorem ok_Scan_fine : fk_okM 20 B_Scan_fine = true := by decide +kernel
abbrev C_Scan_fine : fkC := []
set_option maxRecDepth 100000 in
set_option maxHeartbeats 4000000 in
theorem S_Scan_fine {d : Nat}  {σ : fkS} {Q : Option Value → fkS → Prop} 
  (h : ((¬ (σ.1 46 3) = 0 →
    Q (some (.int (0 : Int32))) σ) ∧
   ((σ.1 46 3) = 0 →
    Q (some (.int (1 : Int32))) σ))) :
  Cl d 20 [.ref 46] σ Q := by
  exact Cl.run B_Scan_fine C_Scan_fine 7 fk_q20 ok_Scan_fine rfl h
def B_Scan_expect : fkB := [(0, [(.aload_n 0, 1, []), (.getfield 15, 3, [10, 1, 510, 0]), (.aload_n 0, 1, []), (.getfield 19, 3, [10, 2, 513, 0]), (.if_icmp .ge 20, 3, [28])]),
  (11, [(.aload_n 0, 1, []), (.getfield 9, 3, [10, 0, 508, 0]), (.aload_n 0, 1, []), (.getfield 15, 3, [10, 1, 510, 0]), (.baload, 1, []), (.sipush 255, 3, []), (.iand, 1, []), (.iload_n 1, 1, []), (.if_icmp .eq 20, 3, [45])]),
  (28, [(.aload_n 0, 1, []), (.iconst (-1), 1, []), (.aload_n 0, 1, []), (.getfield 15, 3, [10, 1, 510, 0]), (.aload_n 0, 1, []), (.getfield 19, 3, [10, 2, 513, 0]), (.invokestatic 28, 3, [1002, 0, 959]), (.invokevirtual 34, 3, [22, 2, 972, 0, 3, 10]), (.return_, 1, [])]),
  (45, [(.aload_n 0, 1, []), (.dup, 1, []), (.getfield 15, 3, [10, 1, 510, 0]), (.iconst 1, 1, []), (.iadd, 1, []), (.putfield 15, 3, [10, 1, 510, 0]), (.return_, 1, [])])]
set_option maxRecDepth 100000 in
theorem ok_Scan_expect : fk_okM 21 B_Scan_expect = true := by decide +kernel
abbrev C_Scan_expect : fkC := []
set_option maxRecDepth 100000 in
set_option maxHeartbeats 4000000 in
theorem S_Scan_expect {d : Nat} {a0 : Int32} {σ : fkS} {Q : Option Value → fkS → Prop} (h46_0 : σ.2.2 46 0 = 26)
  (h : (((σ.1 46 2) ≤ (σ.1 46 1) →
    (Dv d 22 [.ref 46, .int (-1 : Int32), .int (if (σ.1 46 2) < (σ.1 46 1) then (σ.1 46 2) else (σ.1 46 1))] σ (fun σ1 =>
    Q none (sW σ1 σ)))) ∧
   (¬ (σ.1 46 2) ≤ (σ.1 46 1) →
    (¬ (26 : Nat) = 0 ∧
    (vp_in (σ.1 46 1) 4000 ∧
    ((((σ.1 25 ((σ.1 46 1).toNatClampNeg)) &&& (255 : Int32)) = a0 →
      Q none (sI σ 46 1 ((σ.1 46 1) + (1 : Int32)))) ∧
     (¬ ((σ.1 25 ((σ.1 46 1).toNatClampNeg)) &&& (255 : Int32)) = a0 →
      (Dv d 22 [.ref 46, .int (-1 : Int32), .int (if (σ.1 46 2) < (σ.1 46 1) then (σ.1 46 2) else (σ.1 46 1))] σ (fun σ2 =>
      Q none (sW σ2 σ)))))))))) :
  Cl (d + 1) 21 [.ref 46, .int a0] σ Q := by
  rw [← sR_eta h46_0] at h ⊢
  exact Cl.run B_Scan_expect C_Scan_expect 7 fk_q21 ok_Scan_expect rfl h
def B_Scan_fail : fkB := [(0, [(.aload_n 0, 1, []), (.getfield 22, 3, [10, 3, 516, 0]), (.ifCond .ne 13, 3, [17])]),
  (7, [(.aload_n 0, 1, []), (.iload_n 1, 1, []), (.putfield 22, 3, [10, 3, 516, 0]), (.aload_n 0, 1, []), (.iload_n 2, 1, []), (.putfield 25, 3, [10, 4, 518, 0])]),
  (17, [(.return_, 1, [])])]
set_option maxRecDepth 100000 in
theorem ok_Scan_fail : fk_okM 22 B_Scan_fail = true := by decide +kernel
abbrev C_Scan_fail : fkC := []
set_option maxRecDepth 100000 in
set_option maxHeartbeats 4000000 in
theorem S_Scan_fail {d : Nat} {a0 : Int32} {a1 : Int32} {σ : fkS} {Q : Option Value → fkS → Prop} 
  (h : ((¬ (σ.1 46 3) = 0 →
    Q none σ) ∧
   ((σ.1 46 3) = 0 →
    Q none (sI (sI σ 46 3 a0) 46 4 a1)))) :
  Cl d 22 [.ref 46, .int a0, .int a1] σ Q := by
  exact Cl.run B_Scan_fail C_Scan_fail 6 fk_q22 ok_Scan_fail rfl h
def B_Scan_next : fkB := [(0, [(.aload_n 0, 1, []), (.getfield 15, 3, [10, 1, 510, 0]), (.aload_n 0, 1, []), (.getfield 19, 3, [10, 2, 513, 0]), (.if_icmp .lt 14, 3, [22])]),
  (11, [(.aload_n 0, 1, []), (.iconst (-1), 1, []), (.aload_n 0, 1, []), (.getfield 19, 3, [10, 2, 513, 0]), (.invokevirtual 34, 3, [22, 2, 972, 0, 3, 10]), (.iconst 0, 1, []), (.ireturn, 1, [])]),
  (22, [(.aload_n 0, 1, []), (.getfield 9, 3, [10, 0, 508, 0]), (.aload_n 0, 1, []), (.getfield 15, 3, [10, 1, 510, 0]), (.baload, 1, []), (.sipush 255, 3, []), (.iand, 1, []), (.istore_n 1, 1, []), (.aload_n 0, 1, []), (.dup, 1, []), (.getfield 15, 3, [10, 1, 510, 0]), (.iconst 1, 1, []), (.iadd, 1, []), (.putfield 15, 3, [10, 1, 510, 0]), (.iload_n 1, 1, []), (.ireturn, 1, [])])]
set_option maxRecDepth 100000 in
theorem ok_Scan_next : fk_okM 24 B_Scan_next = true := by decide +kernel
abbrev C_Scan_next : fkC := []
set_option maxRecDepth 100000 in
set_option maxHeartbeats 4000000 in
theorem S_Scan_next {d : Nat}  {σ : fkS} {Q : Option Value → fkS → Prop} (h46_0 : σ.2.2 46 0 = 26)
  (h : (((σ.1 46 1) < (σ.1 46 2) →
    (¬ (26 : Nat) = 0 ∧
    (vp_in (σ.1 46 1) 4000 ∧
    Q (some (.int ((σ.1 25 ((σ.1 46 1).toNatClampNeg)) &&& (255 : Int32)))) (sI σ 46 1 ((σ.1 46 1) + (1 : Int32)))))) ∧
   (¬ (σ.1 46 1) < (σ.1 46 2) →
    (Dv d 22 [.ref 46, .int (-1 : Int32), .int (σ.1 46 2)] σ (fun σ1 =>
    Q (some (.int (0 : Int32))) (sW σ1 σ)))))) :
  Cl (d + 1) 24 [.ref 46] σ Q := by
  rw [← sR_eta h46_0] at h ⊢
  exact Cl.run B_Scan_next C_Scan_next 6 fk_q24 ok_Scan_next rfl h
def B_Scan_narrow : fkB := [(0, [(.aload_n 0, 1, []), (.getfield 15, 3, [10, 1, 510, 0]), (.istore_n 1, 1, []), (.aload_n 0, 1, []), (.invokevirtual 40, 3, [26, 0, 989, 0, 5, 10]), (.lstore_n 2, 1, []), (.lload_n 2, 1, []), (.aload_n 0, 1, []), (.getfield 19, 3, [10, 2, 513, 0]), (.aload_n 0, 1, []), (.getfield 15, 3, [10, 1, 510, 0]), (.isub, 1, []), (.i2l, 1, []), (.lcmp, 1, []), (.ifCond .le 12, 3, [34])]),
  (25, [(.aload_n 0, 1, []), (.iconst (-1), 1, []), (.iload_n 1, 1, []), (.invokevirtual 34, 3, [22, 2, 972, 0, 3, 10]), (.goto 21, 3, [52])]),
  (34, [(.aload_n 0, 1, []), (.getfield 22, 3, [10, 3, 516, 0]), (.ifCond .ne 14, 3, [52])]),
  (41, [(.aload_n 0, 1, []), (.aload_n 0, 1, []), (.getfield 15, 3, [10, 1, 510, 0]), (.lload_n 2, 1, []), (.l2i, 1, []), (.iadd, 1, []), (.putfield 19, 3, [10, 2, 513, 0])]),
  (52, [(.return_, 1, [])])]
set_option maxRecDepth 100000 in
theorem ok_Scan_narrow : fk_okM 25 B_Scan_narrow = true := by decide +kernel
abbrev C_Scan_narrow : fkC := []
set_option maxRecDepth 100000 in
set_option maxHeartbeats 4000000 in
theorem S_Scan_narrow {d : Nat}  {σ : fkS} {Q : Option Value → fkS → Prop} 
  (h : (Dj d 26 [.ref 46] σ (fun x2 σ1 =>
  (((lg_cmp x2 ((((sW σ1 σ).1 46 2) - ((sW σ1 σ).1 46 1)).toInt64)) ≤ 0 →
    ((¬ ((sW σ1 σ).1 46 3) = 0 →
      Q none (sW σ1 σ)) ∧
     (((sW σ1 σ).1 46 3) = 0 →
      Q none (sI (sW σ1 σ) 46 2 (((sW σ1 σ).1 46 1) + x2.toInt32))))) ∧
   (¬ (lg_cmp x2 ((((sW σ1 σ).1 46 2) - ((sW σ1 σ).1 46 1)).toInt64)) ≤ 0 →
    (Dv d 22 [.ref 46, .int (-1 : Int32), .int (σ.1 46 1)] (sW σ1 σ) (fun σ3 =>
    Q none (sW σ3 σ)))))))) :
  Cl (d + 1) 25 [.ref 46] σ Q := by
  exact Cl.run B_Scan_narrow C_Scan_narrow 8 fk_q25 ok_Scan_narrow rfl h
def B_Scan_unsigned : fkB := [(0, [(.aload_n 0, 1, []), (.getfield 15, 3, [10, 1, 510, 0]), (.istore_n 1, 1, []), (.lconst 0, 1, []), (.lstore_n 2, 1, []), (.iconst 0, 1, []), (.istore 4, 2, [])]),
  (10, [(.iload 4, 2, []), (.iconst 5, 1, []), (.if_icmp .ge 86, 3, [99])]),
  (16, [(.aload_n 0, 1, []), (.getfield 15, 3, [10, 1, 510, 0]), (.aload_n 0, 1, []), (.getfield 19, 3, [10, 2, 513, 0]), (.if_icmp .ge 75, 3, [99])]),
  (27, [(.aload_n 0, 1, []), (.getfield 9, 3, [10, 0, 508, 0]), (.aload_n 0, 1, []), (.getfield 15, 3, [10, 1, 510, 0]), (.baload, 1, []), (.sipush 255, 3, []), (.iand, 1, []), (.istore 5, 2, []), (.aload_n 0, 1, []), (.dup, 1, []), (.getfield 15, 3, [10, 1, 510, 0]), (.iconst 1, 1, []), (.iadd, 1, []), (.putfield 15, 3, [10, 1, 510, 0]), (.iload 4, 2, []), (.iconst 4, 1, []), (.if_icmp .ne 13, 3, [68])]),
  (58, [(.iload 5, 2, []), (.bipush 16, 2, []), (.if_icmp .lt 6, 3, [68])]),
  (65, [(.goto 34, 3, [99])]),
  (68, [(.lload_n 2, 1, []), (.iload 5, 2, []), (.bipush 127, 2, []), (.iand, 1, []), (.i2l, 1, []), (.bipush 7, 2, []), (.iload 4, 2, []), (.imul, 1, []), (.lshl, 1, []), (.lor, 1, []), (.lstore_n 2, 1, []), (.iload 5, 2, []), (.sipush 128, 3, []), (.if_icmp .ge 5, 3, [93])]),
  (91, [(.lload_n 2, 1, []), (.lreturn, 1, [])]),
  (93, [(.iinc 4 1, 3, []), (.goto (-86), 3, [10])]),
  (99, [(.aload_n 0, 1, []), (.iconst (-1), 1, []), (.iload_n 1, 1, []), (.invokevirtual 34, 3, [22, 2, 972, 0, 3, 10]), (.lconst 0, 1, []), (.lreturn, 1, [])])]
set_option maxRecDepth 100000 in
theorem ok_Scan_unsigned : fk_okM 26 B_Scan_unsigned = true := by decide +kernel
abbrev C_Scan_unsigned : fkC := [(10, [true, true, true, false, true, false]), (68, [true, true, true, false, true, true])]
set_option maxRecDepth 100000 in
set_option maxHeartbeats 4000000 in
theorem S_Scan_unsigned {d : Nat}  {σ : fkS} {Q : Option Value → fkS → Prop} 
  (h : Wq 26 (d + 1) 10 [some (.ref 46), some (.int (σ.1 46 1)), some (.long (0 : Int64)), none, some (.int (0 : Int32)), none] [] σ Q) :
  Cl (d + 1) 26 [.ref 46] σ Q := by
  exact Cl.run B_Scan_unsigned C_Scan_unsigned 13 fk_q26 ok_Scan_unsigned rfl h
set_option maxRecDepth 100000 in
set_option maxHeartbeats 4000000 in
theorem S_Scan_unsigned_10 {d : Nat} {v1 : Int32} {v2 : Int64} {v4 : Int32} {σ : fkS} {Q : Option Value → fkS → Prop} (h46_0 : σ.2.2 46 0 = 26)
  (h : (((5 : Int32) ≤ v4 →
    (Dv d 22 [.ref 46, .int (-1 : Int32), .int v1] σ (fun σ1 =>
    Q (some (.long (0 : Int64))) (sW σ1 σ)))) ∧
   (¬ (5 : Int32) ≤ v4 →
    (((σ.1 46 2) ≤ (σ.1 46 1) →
      (Dv d 22 [.ref 46, .int (-1 : Int32), .int v1] σ (fun σ2 =>
      Q (some (.long (0 : Int64))) (sW σ2 σ)))) ∧
     (¬ (σ.1 46 2) ≤ (σ.1 46 1) →
      (¬ (26 : Nat) = 0 ∧
      (vp_in (σ.1 46 1) 4000 ∧
      ((¬ v4 = (4 : Int32) →
        Wq 26 (d + 1) 68 [some (.ref 46), some (.int v1), some (.long v2), none, some (.int v4), some (.int ((σ.1 25 ((σ.1 46 1).toNatClampNeg)) &&& (255 : Int32)))] [] (sI σ 46 1 ((σ.1 46 1) + (1 : Int32))) Q) ∧
       (v4 = (4 : Int32) →
        ((((σ.1 25 ((σ.1 46 1).toNatClampNeg)) &&& (255 : Int32)) < (16 : Int32) →
          Wq 26 (d + 1) 68 [some (.ref 46), some (.int v1), some (.long v2), none, some (.int v4), some (.int ((σ.1 25 ((σ.1 46 1).toNatClampNeg)) &&& (255 : Int32)))] [] (sI σ 46 1 ((σ.1 46 1) + (1 : Int32))) Q) ∧
         (¬ ((σ.1 25 ((σ.1 46 1).toNatClampNeg)) &&& (255 : Int32)) < (16 : Int32) →
          (Dv d 22 [.ref 46, .int (-1 : Int32), .int v1] (sI σ 46 1 ((σ.1 46 1) + (1 : Int32))) (fun σ3 =>
          Q (some (.long (0 : Int64))) (sW σ3 σ)))))))))))))) :
  Wq 26 (d + 1) 10 [some (.ref 46), some (.int v1), some (.long v2), none, some (.int v4), none] [] σ Q := by
  rw [← sR_eta h46_0] at h ⊢
  exact fk_run_sound (B := B_Scan_unsigned) (C := C_Scan_unsigned) (n := 13) ok_Scan_unsigned h
set_option maxRecDepth 100000 in
set_option maxHeartbeats 4000000 in
theorem S_Scan_unsigned_68 {d : Nat} {v1 : Int32} {v2 : Int64} {v4 : Int32} {v5 : Int32} {σ : fkS} {Q : Option Value → fkS → Prop} 
  (h : (((128 : Int32) ≤ v5 →
    Wq 26 (d + 1) 10 [some (.ref 46), some (.int v1), some (.long (v2 ||| (fk_lshl ((v5 &&& (127 : Int32)).toInt64) ((7 : Int32) * v4)))), none, some (.int (v4 + (1 : Int32))), none] [] σ Q) ∧
   (¬ (128 : Int32) ≤ v5 →
    Q (some (.long (v2 ||| (fk_lshl ((v5 &&& (127 : Int32)).toInt64) ((7 : Int32) * v4))))) σ))) :
  Wq 26 (d + 1) 68 [some (.ref 46), some (.int v1), some (.long v2), none, some (.int v4), some (.int v5)] [] σ Q := by
  exact fk_run_sound (B := B_Scan_unsigned) (C := C_Scan_unsigned) (n := 13) ok_Scan_unsigned h
def B_Scan_vec : fkB := [(0, [(.aload_n 0, 1, []), (.getfield 15, 3, [10, 1, 510, 0]), (.istore_n 1, 1, []), (.aload_n 0, 1, []), (.invokevirtual 40, 3, [26, 0, 989, 0, 5, 10]), (.lstore_n 2, 1, []), (.lload_n 2, 1, []), (.ldc2_w 44, 3, [60, 1002]), (.lcmp, 1, []), (.ifCond .le 10, 3, [25])]),
  (18, [(.aload_n 0, 1, []), (.bipush (-2), 2, []), (.iload_n 1, 1, []), (.invokevirtual 34, 3, [22, 2, 972, 0, 3, 10])]),
  (25, [(.aload_n 0, 1, []), (.getfield 22, 3, [10, 3, 516, 0]), (.ifCond .ne 8, 3, [37])]),
  (32, [(.lload_n 2, 1, []), (.l2i, 1, []), (.goto 4, 3, [38])]),
  (37, [(.iconst 0, 1, [])]),
  (38, [(.ireturn, 1, [])])]
set_option maxRecDepth 100000 in
theorem ok_Scan_vec : fk_okM 28 B_Scan_vec = true := by decide +kernel
abbrev C_Scan_vec : fkC := []
set_option maxRecDepth 100000 in
set_option maxHeartbeats 4000000 in
theorem S_Scan_vec {d : Nat}  {σ : fkS} {Q : Option Value → fkS → Prop} 
  (h : (Dj d 26 [.ref 46] σ (fun x2 σ1 =>
  (((lg_cmp x2 (60 : Int64)) ≤ 0 →
    ((¬ ((sW σ1 σ).1 46 3) = 0 →
      Q (some (.int (0 : Int32))) (sW σ1 σ)) ∧
     (((sW σ1 σ).1 46 3) = 0 →
      Q (some (.int x2.toInt32)) (sW σ1 σ)))) ∧
   (¬ (lg_cmp x2 (60 : Int64)) ≤ 0 →
    (Dv d 22 [.ref 46, .int (-2 : Int32), .int (σ.1 46 1)] (sW σ1 σ) (fun σ3 =>
    ((¬ ((sW σ3 σ).1 46 3) = 0 →
      Q (some (.int (0 : Int32))) (sW σ3 σ)) ∧
     (((sW σ3 σ).1 46 3) = 0 →
      Q (some (.int x2.toInt32)) (sW σ3 σ)))))))))) :
  Cl (d + 1) 28 [.ref 46] σ Q := by
  exact Cl.run B_Scan_vec C_Scan_vec 9 fk_q28 ok_Scan_vec rfl h
def B_Scan_valueType : fkB := [(0, [(.aload_n 0, 1, []), (.getfield 15, 3, [10, 1, 510, 0]), (.istore_n 1, 1, []), (.aload_n 0, 1, []), (.invokevirtual 46, 3, [24, 0, 1015, 0, 4, 10]), (.istore_n 2, 1, []), (.iload_n 2, 1, []), (.bipush 124, 2, []), (.if_icmp .eq 9, 3, [22])]),
  (16, [(.iload_n 2, 1, []), (.bipush 125, 2, []), (.if_icmp .ne 13, 3, [32])]),
  (22, [(.aload_n 0, 1, []), (.bipush (-2), 2, []), (.iload_n 1, 1, []), (.invokevirtual 34, 3, [22, 2, 972, 0, 3, 10]), (.goto 21, 3, [50])]),
  (32, [(.iload_n 2, 1, []), (.bipush 127, 2, []), (.if_icmp .eq 15, 3, [50])]),
  (38, [(.iload_n 2, 1, []), (.bipush 126, 2, []), (.if_icmp .eq 9, 3, [50])]),
  (44, [(.aload_n 0, 1, []), (.iconst (-1), 1, []), (.iload_n 1, 1, []), (.invokevirtual 34, 3, [22, 2, 972, 0, 3, 10])]),
  (50, [(.iload_n 2, 1, []), (.ireturn, 1, [])])]
set_option maxRecDepth 100000 in
theorem ok_Scan_valueType : fk_okM 30 B_Scan_valueType = true := by decide +kernel
abbrev C_Scan_valueType : fkC := []
set_option maxRecDepth 100000 in
set_option maxHeartbeats 4000000 in
theorem S_Scan_valueType {d : Nat}  {σ : fkS} {Q : Option Value → fkS → Prop} 
  (h : (Di d 24 [.ref 46] σ (fun x2 σ1 =>
  ((x2 = (124 : Int32) →
    (Dv d 22 [.ref 46, .int (-2 : Int32), .int (σ.1 46 1)] (sW σ1 σ) (fun σ3 =>
    Q (some (.int x2)) (sW σ3 σ)))) ∧
   (¬ x2 = (124 : Int32) →
    ((¬ x2 = (125 : Int32) →
      ((x2 = (127 : Int32) →
        Q (some (.int x2)) (sW σ1 σ)) ∧
       (¬ x2 = (127 : Int32) →
        ((x2 = (126 : Int32) →
          Q (some (.int x2)) (sW σ1 σ)) ∧
         (¬ x2 = (126 : Int32) →
          (Dv d 22 [.ref 46, .int (-1 : Int32), .int (σ.1 46 1)] (sW σ1 σ) (fun σ4 =>
          Q (some (.int x2)) (sW σ4 σ)))))))) ∧
     (x2 = (125 : Int32) →
      (Dv d 22 [.ref 46, .int (-2 : Int32), .int (σ.1 46 1)] (sW σ1 σ) (fun σ5 =>
      Q (some (.int x2)) (sW σ5 σ)))))))))) :
  Cl (d + 1) 30 [.ref 46] σ Q := by
  exact Cl.run B_Scan_valueType C_Scan_valueType 10 fk_q30 ok_Scan_valueType rfl h
def B_Scan_signed : fkB := [(0, [(.aload_n 0, 1, []), (.getfield 15, 3, [10, 1, 510, 0]), (.istore_n 2, 1, []), (.iload_n 1, 1, []), (.bipush 32, 2, []), (.if_icmp .ne 7, 3, [15])]),
  (11, [(.iconst 5, 1, []), (.goto 5, 3, [17])]),
  (15, [(.bipush 10, 2, [])]),
  (17, [(.istore_n 3, 1, []), (.iload_n 1, 1, []), (.bipush 32, 2, []), (.if_icmp .ne 8, 3, [29])]),
  (24, [(.bipush 120, 2, []), (.goto 5, 3, [31])]),
  (29, [(.bipush 127, 2, [])]),
  (31, [(.istore 4, 2, []), (.lconst 0, 1, []), (.lstore 5, 2, []), (.iconst 0, 1, []), (.istore 7, 2, [])]),
  (39, [(.iload 7, 2, []), (.iload_n 3, 1, []), (.if_icmp .ge 162, 3, [204])]),
  (45, [(.aload_n 0, 1, []), (.getfield 15, 3, [10, 1, 510, 0]), (.aload_n 0, 1, []), (.getfield 19, 3, [10, 2, 513, 0]), (.if_icmp .ge 151, 3, [204])]),
  (56, [(.aload_n 0, 1, []), (.getfield 9, 3, [10, 0, 508, 0]), (.aload_n 0, 1, []), (.getfield 15, 3, [10, 1, 510, 0]), (.baload, 1, []), (.sipush 255, 3, []), (.iand, 1, []), (.istore 8, 2, []), (.aload_n 0, 1, []), (.dup, 1, []), (.getfield 15, 3, [10, 1, 510, 0]), (.iconst 1, 1, []), (.iadd, 1, []), (.putfield 15, 3, [10, 1, 510, 0]), (.iload 7, 2, []), (.iload_n 3, 1, []), (.iconst 1, 1, []), (.isub, 1, []), (.if_icmp .ne 33, 3, [119])]),
  (89, [(.iload 8, 2, []), (.sipush 128, 3, []), (.iand, 1, []), (.ifCond .ne 24, 3, [119])]),
  (98, [(.iload 8, 2, []), (.iload 4, 2, []), (.iand, 1, []), (.ifCond .eq 16, 3, [119])]),
  (106, [(.iload 8, 2, []), (.iload 4, 2, []), (.iand, 1, []), (.iload 4, 2, []), (.if_icmp .eq 6, 3, [119])]),
  (116, [(.goto 88, 3, [204])]),
  (119, [(.lload 5, 2, []), (.iload 8, 2, []), (.bipush 127, 2, []), (.iand, 1, []), (.i2l, 1, []), (.bipush 7, 2, []), (.iload 7, 2, []), (.imul, 1, []), (.lshl, 1, []), (.lor, 1, []), (.lstore 5, 2, []), (.iload 8, 2, []), (.sipush 128, 3, []), (.if_icmp .ge 57, 3, [198])]),
  (144, [(.iload 8, 2, []), (.bipush 64, 2, []), (.iand, 1, []), (.ifCond .eq 20, 3, [169])]),
  (152, [(.bipush 7, 2, []), (.iload 7, 2, []), (.imul, 1, []), (.bipush 7, 2, []), (.iadd, 1, []), (.bipush 64, 2, []), (.if_icmp .ge 7, 3, [169])]),
  (165, [(.iconst 1, 1, []), (.goto 4, 3, [170])]),
  (169, [(.iconst 0, 1, [])]),
  (170, [(.istore 9, 2, []), (.iload 9, 2, []), (.ifCond .eq 21, 3, [195])]),
  (177, [(.lload 5, 2, []), (.ldc2_w 38, 3, [18446744073709551615, 1067]), (.bipush 7, 2, []), (.iload 7, 2, []), (.imul, 1, []), (.bipush 7, 2, []), (.iadd, 1, []), (.lshl, 1, []), (.lor, 1, []), (.goto 5, 3, [197])]),
  (195, [(.lload 5, 2, [])]),
  (197, [(.lreturn, 1, [])]),
  (198, [(.iinc 7 1, 3, []), (.goto (-162), 3, [39])]),
  (204, [(.aload_n 0, 1, []), (.iconst (-1), 1, []), (.iload_n 2, 1, []), (.invokevirtual 34, 3, [22, 2, 972, 0, 3, 10]), (.lconst 0, 1, []), (.lreturn, 1, [])])]
set_option maxRecDepth 100000 in
theorem ok_Scan_signed : fk_okM 43 B_Scan_signed = true := by decide +kernel
abbrev C_Scan_signed : fkC := [(39, [true, false, true, true, true, true, false, true, false, false]), (119, [true, false, true, true, true, true, false, true, true, false]), (170, [false, false, false, false, false, true, false, true, false, false])]
set_option maxRecDepth 100000 in
set_option maxHeartbeats 4000000 in
theorem S_Scan_signed {d : Nat} {a0 : Int32} {σ : fkS} {Q : Option Value → fkS → Prop} 
  (h : ((¬ a0 = (32 : Int32) →
    ((¬ a0 = (32 : Int32) →
      Wq 43 (d + 1) 39 [some (.ref 46), none, some (.int (σ.1 46 1)), some (.int (10 : Int32)), some (.int (127 : Int32)), some (.long (0 : Int64)), none, some (.int (0 : Int32)), none, none] [] σ Q) ∧
     (a0 = (32 : Int32) →
      Wq 43 (d + 1) 39 [some (.ref 46), none, some (.int (σ.1 46 1)), some (.int (10 : Int32)), some (.int (120 : Int32)), some (.long (0 : Int64)), none, some (.int (0 : Int32)), none, none] [] σ Q))) ∧
   (a0 = (32 : Int32) →
    ((¬ a0 = (32 : Int32) →
      Wq 43 (d + 1) 39 [some (.ref 46), none, some (.int (σ.1 46 1)), some (.int (5 : Int32)), some (.int (127 : Int32)), some (.long (0 : Int64)), none, some (.int (0 : Int32)), none, none] [] σ Q) ∧
     (a0 = (32 : Int32) →
      Wq 43 (d + 1) 39 [some (.ref 46), none, some (.int (σ.1 46 1)), some (.int (5 : Int32)), some (.int (120 : Int32)), some (.long (0 : Int64)), none, some (.int (0 : Int32)), none, none] [] σ Q))))) :
  Cl (d + 1) 43 [.ref 46, .int a0] σ Q := by
  exact Cl.run B_Scan_signed C_Scan_signed 28 fk_q43 ok_Scan_signed rfl h
set_option maxRecDepth 100000 in
set_option maxHeartbeats 4000000 in
theorem S_Scan_signed_39 {d : Nat} {v2 : Int32} {v3 : Int32} {v4 : Int32} {v5 : Int64} {v7 : Int32} {σ : fkS} {Q : Option Value → fkS → Prop} (h46_0 : σ.2.2 46 0 = 26)
  (h : ((v3 ≤ v7 →
    (Dv d 22 [.ref 46, .int (-1 : Int32), .int v2] σ (fun σ1 =>
    Q (some (.long (0 : Int64))) (sW σ1 σ)))) ∧
   (¬ v3 ≤ v7 →
    (((σ.1 46 2) ≤ (σ.1 46 1) →
      (Dv d 22 [.ref 46, .int (-1 : Int32), .int v2] σ (fun σ2 =>
      Q (some (.long (0 : Int64))) (sW σ2 σ)))) ∧
     (¬ (σ.1 46 2) ≤ (σ.1 46 1) →
      (¬ (26 : Nat) = 0 ∧
      (vp_in (σ.1 46 1) 4000 ∧
      ((¬ v7 = (v3 - (1 : Int32)) →
        Wq 43 (d + 1) 119 [some (.ref 46), none, some (.int v2), some (.int v3), some (.int v4), some (.long v5), none, some (.int v7), some (.int ((σ.1 25 ((σ.1 46 1).toNatClampNeg)) &&& (255 : Int32))), none] [] (sI σ 46 1 ((σ.1 46 1) + (1 : Int32))) Q) ∧
       (v7 = (v3 - (1 : Int32)) →
        ((¬ (((σ.1 25 ((σ.1 46 1).toNatClampNeg)) &&& (255 : Int32)) &&& (128 : Int32)) = 0 →
          Wq 43 (d + 1) 119 [some (.ref 46), none, some (.int v2), some (.int v3), some (.int v4), some (.long v5), none, some (.int v7), some (.int ((σ.1 25 ((σ.1 46 1).toNatClampNeg)) &&& (255 : Int32))), none] [] (sI σ 46 1 ((σ.1 46 1) + (1 : Int32))) Q) ∧
         ((((σ.1 25 ((σ.1 46 1).toNatClampNeg)) &&& (255 : Int32)) &&& (128 : Int32)) = 0 →
          (((((σ.1 25 ((σ.1 46 1).toNatClampNeg)) &&& (255 : Int32)) &&& v4) = 0 →
            Wq 43 (d + 1) 119 [some (.ref 46), none, some (.int v2), some (.int v3), some (.int v4), some (.long v5), none, some (.int v7), some (.int ((σ.1 25 ((σ.1 46 1).toNatClampNeg)) &&& (255 : Int32))), none] [] (sI σ 46 1 ((σ.1 46 1) + (1 : Int32))) Q) ∧
           (¬ (((σ.1 25 ((σ.1 46 1).toNatClampNeg)) &&& (255 : Int32)) &&& v4) = 0 →
            (((((σ.1 25 ((σ.1 46 1).toNatClampNeg)) &&& (255 : Int32)) &&& v4) = v4 →
              Wq 43 (d + 1) 119 [some (.ref 46), none, some (.int v2), some (.int v3), some (.int v4), some (.long v5), none, some (.int v7), some (.int ((σ.1 25 ((σ.1 46 1).toNatClampNeg)) &&& (255 : Int32))), none] [] (sI σ 46 1 ((σ.1 46 1) + (1 : Int32))) Q) ∧
             (¬ (((σ.1 25 ((σ.1 46 1).toNatClampNeg)) &&& (255 : Int32)) &&& v4) = v4 →
              (Dv d 22 [.ref 46, .int (-1 : Int32), .int v2] (sI σ 46 1 ((σ.1 46 1) + (1 : Int32))) (fun σ3 =>
              Q (some (.long (0 : Int64))) (sW σ3 σ)))))))))))))))))) :
  Wq 43 (d + 1) 39 [some (.ref 46), none, some (.int v2), some (.int v3), some (.int v4), some (.long v5), none, some (.int v7), none, none] [] σ Q := by
  rw [← sR_eta h46_0] at h ⊢
  exact fk_run_sound (B := B_Scan_signed) (C := C_Scan_signed) (n := 28) ok_Scan_signed h
set_option maxRecDepth 100000 in
set_option maxHeartbeats 4000000 in
theorem S_Scan_signed_119 {d : Nat} {v2 : Int32} {v3 : Int32} {v4 : Int32} {v5 : Int64} {v7 : Int32} {v8 : Int32} {σ : fkS} {Q : Option Value → fkS → Prop} 
  (h : (((128 : Int32) ≤ v8 →
    Wq 43 (d + 1) 39 [some (.ref 46), none, some (.int v2), some (.int v3), some (.int v4), some (.long (v5 ||| (fk_lshl ((v8 &&& (127 : Int32)).toInt64) ((7 : Int32) * v7)))), none, some (.int (v7 + (1 : Int32))), none, none] [] σ Q) ∧
   (¬ (128 : Int32) ≤ v8 →
    (((v8 &&& (64 : Int32)) = 0 →
      Wq 43 (d + 1) 170 [none, none, none, none, none, some (.long (v5 ||| (fk_lshl ((v8 &&& (127 : Int32)).toInt64) ((7 : Int32) * v7)))), none, some (.int v7), none, none] [.int (0 : Int32)] σ Q) ∧
     (¬ (v8 &&& (64 : Int32)) = 0 →
      (((64 : Int32) ≤ (((7 : Int32) * v7) + (7 : Int32)) →
        Wq 43 (d + 1) 170 [none, none, none, none, none, some (.long (v5 ||| (fk_lshl ((v8 &&& (127 : Int32)).toInt64) ((7 : Int32) * v7)))), none, some (.int v7), none, none] [.int (0 : Int32)] σ Q) ∧
       (¬ (64 : Int32) ≤ (((7 : Int32) * v7) + (7 : Int32)) →
        Wq 43 (d + 1) 170 [none, none, none, none, none, some (.long (v5 ||| (fk_lshl ((v8 &&& (127 : Int32)).toInt64) ((7 : Int32) * v7)))), none, some (.int v7), none, none] [.int (1 : Int32)] σ Q))))))) :
  Wq 43 (d + 1) 119 [some (.ref 46), none, some (.int v2), some (.int v3), some (.int v4), some (.long v5), none, some (.int v7), some (.int v8), none] [] σ Q := by
  exact fk_run_sound (B := B_Scan_signed) (C := C_Scan_signed) (n := 28) ok_Scan_signed h
set_option maxRecDepth 100000 in
set_option maxHeartbeats 4000000 in
theorem S_Scan_signed_170 {d : Nat} {v5 : Int64} {v7 : Int32} {s0 : Int32} {σ : fkS} {Q : Option Value → fkS → Prop} 
  (h : ((s0 = 0 →
    Q (some (.long v5)) σ) ∧
   (¬ s0 = 0 →
    Q (some (.long (v5 ||| (fk_lshl (-1 : Int64) (((7 : Int32) * v7) + (7 : Int32)))))) σ))) :
  Wq 43 (d + 1) 170 [none, none, none, none, none, some (.long v5), none, some (.int v7), none, none] [.int s0] σ Q := by
  exact fk_run_sound (B := B_Scan_signed) (C := C_Scan_signed) (n := 28) ok_Scan_signed h
def B_Scan_widen : fkB := [(0, [(.aload_n 0, 1, []), (.getfield 15, 3, [10, 1, 510, 0]), (.aload_n 0, 1, []), (.getfield 19, 3, [10, 2, 513, 0]), (.if_icmp .ge 12, 3, [20])]),
  (11, [(.aload_n 0, 1, []), (.iconst (-1), 1, []), (.aload_n 0, 1, []), (.getfield 15, 3, [10, 1, 510, 0]), (.invokevirtual 34, 3, [22, 2, 972, 0, 3, 10])]),
  (20, [(.aload_n 0, 1, []), (.iload_n 1, 1, []), (.putfield 19, 3, [10, 2, 513, 0]), (.return_, 1, [])])]
set_option maxRecDepth 100000 in
theorem ok_Scan_widen : fk_okM 46 B_Scan_widen = true := by decide +kernel
abbrev C_Scan_widen : fkC := []
set_option maxRecDepth 100000 in
set_option maxHeartbeats 4000000 in
theorem S_Scan_widen {d : Nat} {a0 : Int32} {σ : fkS} {Q : Option Value → fkS → Prop} 
  (h : (((σ.1 46 2) ≤ (σ.1 46 1) →
    Q none (sI σ 46 2 a0)) ∧
   (¬ (σ.1 46 2) ≤ (σ.1 46 1) →
    (Dv d 22 [.ref 46, .int (-1 : Int32), .int (σ.1 46 1)] σ (fun σ1 =>
    Q none (sI (sW σ1 σ) 46 2 a0)))))) :
  Cl (d + 1) 46 [.ref 46, .int a0] σ Q := by
  exact Cl.run B_Scan_widen C_Scan_widen 6 fk_q46 ok_Scan_widen rfl h
def B_M_fails : fkB := [(0, [(.aload_n 0, 1, []), (.getfield 287, 3, [12, 42, 1919, 0]), (.ifCond .eq 4, 3, [8])]),
  (7, [(.return_, 1, [])]),
  (8, [(.aload_n 0, 1, []), (.iload_n 1, 1, []), (.putfield 287, 3, [12, 42, 1919, 0]), (.aload_n 0, 1, []), (.iload_n 2, 1, []), (.putfield 290, 3, [12, 43, 1920, 0]), (.return_, 1, [])])]
set_option maxRecDepth 100000 in
theorem ok_M_fails : fk_okM 244 B_M_fails = true := by decide +kernel
abbrev C_M_fails : fkC := []
set_option maxRecDepth 100000 in
set_option maxHeartbeats 4000000 in
theorem S_M_fails {d : Nat} {a0 : Int32} {a1 : Int32} {σ : fkS} {Q : Option Value → fkS → Prop} 
  (h : (((σ.1 103 42) = 0 →
    Q none (sI (sI σ 103 42 a0) 103 43 a1)) ∧
   (¬ (σ.1 103 42) = 0 →
    Q none σ))) :
  Cl d 244 [.ref 103, .int a0, .int a1] σ Q := by
  exact Cl.run B_M_fails C_M_fails 6 fk_q244 ok_M_fails rfl h
def B_M_u32 : fkB := [(0, [(.aload_n 0, 1, []), (.getfield 287, 3, [12, 42, 1919, 0]), (.ifCond .eq 5, 3, [9])]),
  (7, [(.lconst 0, 1, []), (.lreturn, 1, [])]),
  (9, [(.aload_n 0, 1, []), (.getfield 296, 3, [12, 40, 1917, 0]), (.istore_n 1, 1, []), (.lconst 0, 1, []), (.lstore_n 2, 1, []), (.iconst 0, 1, []), (.istore 4, 2, [])]),
  (19, [(.iload 4, 2, []), (.iconst 5, 1, []), (.if_icmp .ge 85, 3, [107])]),
  (25, [(.aload_n 0, 1, []), (.getfield 296, 3, [12, 40, 1917, 0]), (.aload_n 0, 1, []), (.getfield 299, 3, [12, 41, 1918, 0]), (.if_icmp .lt 11, 3, [44])]),
  (36, [(.aload_n 0, 1, []), (.iconst (-1), 1, []), (.iload_n 1, 1, []), (.invokevirtual 302, 3, [244, 2, 2335, 0, 0, 12]), (.lconst 0, 1, []), (.lreturn, 1, [])]),
  (44, [(.aload_n 0, 1, []), (.invokevirtual 314, 3, [247, 0, 2347, 0, 1, 12]), (.istore 5, 2, []), (.aload_n 0, 1, []), (.dup, 1, []), (.getfield 296, 3, [12, 40, 1917, 0]), (.iconst 1, 1, []), (.iadd, 1, []), (.putfield 296, 3, [12, 40, 1917, 0]), (.iload 4, 2, []), (.iconst 4, 1, []), (.if_icmp .ne 13, 3, [76])]),
  (66, [(.iload 5, 2, []), (.bipush 15, 2, []), (.if_icmp .le 6, 3, [76])]),
  (73, [(.goto 34, 3, [107])]),
  (76, [(.lload_n 2, 1, []), (.iload 5, 2, []), (.bipush 127, 2, []), (.iand, 1, []), (.i2l, 1, []), (.bipush 7, 2, []), (.iload 4, 2, []), (.imul, 1, []), (.lshl, 1, []), (.lor, 1, []), (.lstore_n 2, 1, []), (.iload 5, 2, []), (.sipush 128, 3, []), (.if_icmp .ge 5, 3, [101])]),
  (99, [(.lload_n 2, 1, []), (.lreturn, 1, [])]),
  (101, [(.iinc 4 1, 3, []), (.goto (-85), 3, [19])]),
  (107, [(.aload_n 0, 1, []), (.iconst (-1), 1, []), (.iload_n 1, 1, []), (.invokevirtual 302, 3, [244, 2, 2335, 0, 0, 12]), (.lconst 0, 1, []), (.lreturn, 1, [])])]
set_option maxRecDepth 100000 in
theorem ok_M_u32 : fk_okM 246 B_M_u32 = true := by decide +kernel
abbrev C_M_u32 : fkC := [(19, [true, true, true, false, true, false]), (76, [true, true, true, false, true, true])]
set_option maxRecDepth 100000 in
set_option maxHeartbeats 4000000 in
theorem S_M_u32 {d : Nat}  {σ : fkS} {Q : Option Value → fkS → Prop} 
  (h : (((σ.1 103 42) = 0 →
    Wq 246 (d + 1) 19 [some (.ref 103), some (.int (σ.1 103 40)), some (.long (0 : Int64)), none, some (.int (0 : Int32)), none] [] σ Q) ∧
   (¬ (σ.1 103 42) = 0 →
    Q (some (.long (0 : Int64))) σ))) :
  Cl (d + 1) 246 [.ref 103] σ Q := by
  exact Cl.run B_M_u32 C_M_u32 16 fk_q246 ok_M_u32 rfl h
set_option maxRecDepth 100000 in
set_option maxHeartbeats 4000000 in
theorem S_M_u32_19 {d : Nat} {v1 : Int32} {v2 : Int64} {v4 : Int32} {σ : fkS} {Q : Option Value → fkS → Prop} 
  (h : (((5 : Int32) ≤ v4 →
    (Cv d 244 [.ref 103, .int (-1 : Int32), .int v1] σ (fun σ1 =>
    Q (some (.long (0 : Int64))) σ1))) ∧
   (¬ (5 : Int32) ≤ v4 →
    (((σ.1 103 40) < (σ.1 103 41) →
      (Ci d 247 [.ref 103] σ (fun x3 σ2 =>
      ((¬ v4 = (4 : Int32) →
        Wq 246 (d + 1) 76 [some (.ref 103), some (.int v1), some (.long v2), none, some (.int v4), some (.int x3)] [] (sI σ2 103 40 ((σ2.1 103 40) + (1 : Int32))) Q) ∧
       (v4 = (4 : Int32) →
        ((x3 ≤ (15 : Int32) →
          Wq 246 (d + 1) 76 [some (.ref 103), some (.int v1), some (.long v2), none, some (.int v4), some (.int x3)] [] (sI σ2 103 40 ((σ2.1 103 40) + (1 : Int32))) Q) ∧
         (¬ x3 ≤ (15 : Int32) →
          (Cv d 244 [.ref 103, .int (-1 : Int32), .int v1] (sI σ2 103 40 ((σ2.1 103 40) + (1 : Int32))) (fun σ4 =>
          Q (some (.long (0 : Int64))) σ4))))))))) ∧
     (¬ (σ.1 103 40) < (σ.1 103 41) →
      (Cv d 244 [.ref 103, .int (-1 : Int32), .int v1] σ (fun σ5 =>
      Q (some (.long (0 : Int64))) σ5))))))) :
  Wq 246 (d + 1) 19 [some (.ref 103), some (.int v1), some (.long v2), none, some (.int v4), none] [] σ Q := by
  exact fk_run_sound (B := B_M_u32) (C := C_M_u32) (n := 16) ok_M_u32 h
set_option maxRecDepth 100000 in
set_option maxHeartbeats 4000000 in
theorem S_M_u32_76 {d : Nat} {v1 : Int32} {v2 : Int64} {v4 : Int32} {v5 : Int32} {σ : fkS} {Q : Option Value → fkS → Prop} 
  (h : (((128 : Int32) ≤ v5 →
    Wq 246 (d + 1) 19 [some (.ref 103), some (.int v1), some (.long (v2 ||| (fk_lshl ((v5 &&& (127 : Int32)).toInt64) ((7 : Int32) * v4)))), none, some (.int (v4 + (1 : Int32))), none] [] σ Q) ∧
   (¬ (128 : Int32) ≤ v5 →
    Q (some (.long (v2 ||| (fk_lshl ((v5 &&& (127 : Int32)).toInt64) ((7 : Int32) * v4))))) σ))) :
  Wq 246 (d + 1) 76 [some (.ref 103), some (.int v1), some (.long v2), none, some (.int v4), some (.int v5)] [] σ Q := by
  exact fk_run_sound (B := B_M_u32) (C := C_M_u32) (n := 16) ok_M_u32 h
def B_M_feeds : fkB := [(0, [(.iconst 3, 1, []), (.istore_n 2, 1, [])]),
  (2, [(.iload_n 2, 1, []), (.ifCond .lt 38, 3, [41])]),
  (6, [(.aload_n 0, 1, []), (.getfield 9, 3, [12, 0, 1877, 0]), (.aload_n 0, 1, []), (.getfield 280, 3, [12, 1, 1878, 0]), (.iload_n 1, 1, []), (.bipush 8, 2, []), (.iload_n 2, 1, []), (.imul, 1, []), (.ishr, 1, []), (.sipush 255, 3, []), (.iand, 1, []), (.iastore, 1, []), (.aload_n 0, 1, []), (.dup, 1, []), (.getfield 280, 3, [12, 1, 1878, 0]), (.iconst 1, 1, []), (.iadd, 1, []), (.putfield 280, 3, [12, 1, 1878, 0]), (.iinc 2 (-1), 3, []), (.goto (-36), 3, [2])]),
  (41, [(.return_, 1, [])])]
set_option maxRecDepth 100000 in
theorem ok_M_feeds : fk_okM 238 B_M_feeds = true := by decide +kernel
abbrev C_M_feeds : fkC := [(2, [true, true, true])]
set_option maxRecDepth 100000 in
set_option maxHeartbeats 4000000 in
theorem S_M_feeds {d : Nat} {a0 : Int32} {σ : fkS} {Q : Option Value → fkS → Prop} 
  (h : Wq 238 d 2 [some (.ref 103), some (.int a0), some (.int (3 : Int32))] [] σ Q) :
  Cl d 238 [.ref 103, .int a0] σ Q := by
  exact Cl.run B_M_feeds C_M_feeds 7 fk_q238 ok_M_feeds rfl h
set_option maxRecDepth 100000 in
set_option maxHeartbeats 4000000 in
theorem S_M_feeds_2 {d : Nat} {v1 : Int32} {v2 : Int32} {σ : fkS} {Q : Option Value → fkS → Prop} 
  (h : ((v2 < 0 →
    Q none σ) ∧
   (¬ v2 < 0 →
    (vp_in (σ.1 103 1) 4000 ∧
    Wq 238 d 2 [some (.ref 103), some (.int v1), some (.int (v2 + (-1 : Int32)))] [] (sI (sI σ 104 ((σ.1 103 1).toNatClampNeg) ((v1 >>> (((8 : Int32) * v2) &&& 31)) &&& (255 : Int32))) 103 1 ((σ.1 103 1) + (1 : Int32))) Q)))) :
  Wq 238 d 2 [some (.ref 103), some (.int v1), some (.int v2)] [] σ Q := by
  exact fk_run_sound (B := B_M_feeds) (C := C_M_feeds) (n := 7) ok_M_feeds h
def B_M_feed : fkB := [(0, [(.aload_n 0, 1, []), (.getfield 280, 3, [12, 1, 1878, 0]), (.bipush 20, 2, []), (.iadd, 1, []), (.sipush 4000, 3, []), (.if_icmp .le 5, 3, [15])]),
  (13, [(.iconst (-1), 1, []), (.ireturn, 1, [])]),
  (15, [(.aload_n 0, 1, []), (.iload_n 1, 1, []), (.invokevirtual 283, 3, [238, 1, 2311, 0, 0, 12]), (.aload_n 0, 1, []), (.iload_n 2, 1, []), (.invokevirtual 283, 3, [238, 1, 2311, 0, 0, 12]), (.aload_n 0, 1, []), (.iload_n 3, 1, []), (.invokevirtual 283, 3, [238, 1, 2311, 0, 0, 12]), (.aload_n 0, 1, []), (.iload 4, 2, []), (.invokevirtual 283, 3, [238, 1, 2311, 0, 0, 12]), (.aload_n 0, 1, []), (.iload 5, 2, []), (.invokevirtual 283, 3, [238, 1, 2311, 0, 0, 12]), (.aload_n 0, 1, []), (.getfield 280, 3, [12, 1, 1878, 0]), (.ireturn, 1, [])])]
set_option maxRecDepth 100000 in
theorem ok_M_feed : fk_okM 237 B_M_feed = true := by decide +kernel
abbrev C_M_feed : fkC := []
set_option maxRecDepth 100000 in
set_option maxHeartbeats 4000000 in
theorem S_M_feed {d : Nat} {a0 : Int32} {a1 : Int32} {a2 : Int32} {a3 : Int32} {a4 : Int32} {σ : fkS} {Q : Option Value → fkS → Prop} 
  (h : ((((σ.1 103 1) + (20 : Int32)) ≤ (4000 : Int32) →
    (Cv d 238 [.ref 103, .int a0] σ (fun σ1 =>
    (Cv d 238 [.ref 103, .int a1] σ1 (fun σ2 =>
    (Cv d 238 [.ref 103, .int a2] σ2 (fun σ3 =>
    (Cv d 238 [.ref 103, .int a3] σ3 (fun σ4 =>
    (Cv d 238 [.ref 103, .int a4] σ4 (fun σ5 =>
    Q (some (.int (σ5.1 103 1))) σ5))))))))))) ∧
   (¬ ((σ.1 103 1) + (20 : Int32)) ≤ (4000 : Int32) →
    Q (some (.int (-1 : Int32))) σ))) :
  Cl (d + 1) 237 [.ref 103, .int a0, .int a1, .int a2, .int a3, .int a4] σ Q := by
  exact Cl.run B_M_feed C_M_feed 6 fk_q237 ok_M_feed rfl h
