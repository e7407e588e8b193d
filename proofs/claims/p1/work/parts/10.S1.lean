/-! THE WALKS of the methods as predicates, by program (wip/whole/gen/gen_S.py). Cells: wip/whole/gen/cells.py prints them. -/
-- not here: ModuleRows_<init> CodeRows_<init> ModuleReader_<init> Scan_<init> CodeReader_<init>
def B_ModuleReader_read : fkB := [(0, [(.aload_n 1, 1, []), (.invokevirtual 25, 3, [17, 0, 948, 1, 3, 6]), (.aload_n 2, 1, []), (.iconst 0, 1, []), (.aload_n 1, 1, []), (.getfield 30, 3, [6, 0, 378, 1]), (.iconst 0, 1, []), (.iload_n 3, 1, []), (.invokestatic 34, 3, [1000, 2, 952]), (.aload_n 0, 1, []), (.getfield 12, 3, [5, 0, 544, 0]), (.aload_n 1, 1, []), (.getfield 30, 3, [6, 0, 378, 1]), (.iload_n 3, 1, []), (.invokevirtual 40, 3, [18, 2, 955, 1, 0, 10]), (.iconst 0, 1, []), (.istore 4, 2, [])]),
  (30, [(.iload 4, 2, []), (.getstatic 44, 3, [962]), (.arraylength, 1, []), (.if_icmp .ge 32, 3, [68])]),
  (39, [(.aload_n 0, 1, []), (.getfield 12, 3, [5, 0, 544, 0]), (.invokevirtual 48, 3, [20, 0, 964, 1, 4, 10]), (.ifCond .eq 22, 3, [68])]),
  (49, [(.aload_n 0, 1, []), (.getfield 12, 3, [5, 0, 544, 0]), (.getstatic 44, 3, [962]), (.iload 4, 2, []), (.iaload, 1, []), (.invokevirtual 52, 3, [21, 1, 968, 1, 3, 10]), (.iinc 4 1, 3, []), (.goto (-35), 3, [30])]),
  (68, [(.aload_n 0, 1, []), (.iconst 0, 1, []), (.putfield 56, 3, [5, 2, 547, 0]), (.iconst 0, 1, []), (.istore 4, 2, [])]),
  (76, [(.iload 4, 2, []), (.sipush 4000, 3, []), (.if_icmp .ge 76, 3, [157])]),
  (84, [(.aload_n 0, 1, []), (.getfield 12, 3, [5, 0, 544, 0]), (.invokevirtual 48, 3, [20, 0, 964, 1, 4, 10]), (.ifCond .eq 66, 3, [157])]),
  (94, [(.aload_n 0, 1, []), (.getfield 12, 3, [5, 0, 544, 0]), (.getfield 60, 3, [10, 1, 511, 1]), (.iload_n 3, 1, []), (.if_icmp .ge 55, 3, [157])]),
  (105, [(.aload_n 0, 1, []), (.invokevirtual 63, 3, [23, 0, 976, 0, 4, 5]), (.istore 5, 2, []), (.iload 5, 2, []), (.bipush 10, 2, []), (.if_icmp .ne 21, 3, [136])]),
  (118, [(.aload_n 0, 1, []), (.getfield 21, 3, [5, 1, 546, 0]), (.aload_n 0, 1, []), (.getfield 12, 3, [5, 0, 544, 0]), (.aload_n 1, 1, []), (.getfield 67, 3, [6, 19, 454, 1]), (.invokevirtual 71, 3, [27, 2, 993, 1, 3, 1]), (.goto 10, 3, [143])]),
  (136, [(.aload_n 0, 1, []), (.aload_n 1, 1, []), (.iload 5, 2, []), (.invokevirtual 75, 3, [47, 2, 1079, 0, 3, 5])]),
  (143, [(.aload_n 0, 1, []), (.getfield 12, 3, [5, 0, 544, 0]), (.iload_n 3, 1, []), (.invokevirtual 79, 3, [46, 1, 1125, 1, 3, 10]), (.iinc 4 1, 3, []), (.goto (-78), 3, [76])]),
  (157, [(.aload_n 1, 1, []), (.getfield 82, 3, [6, 3, 389, 1]), (.aload_n 1, 1, []), (.getfield 67, 3, [6, 19, 454, 1]), (.getfield 85, 3, [2, 0, 312, 1]), (.if_icmp .eq 12, 3, [180])]),
  (171, [(.aload_n 0, 1, []), (.getfield 12, 3, [5, 0, 544, 0]), (.iconst (-1), 1, []), (.iload_n 3, 1, []), (.invokevirtual 90, 3, [22, 2, 984, 1, 3, 10])]),
  (180, [(.return_, 1, [])])]
set_option maxRecDepth 100000 in
theorem ok_ModuleReader_read : fk_okM 16 B_ModuleReader_read = true := by decide +kernel
abbrev C_ModuleReader_read : fkC := [(30, [true, true, false, true, true, false]), (76, [true, true, false, true, true, false])]
set_option maxRecDepth 100000 in
set_option maxHeartbeats 4000000 in
theorem S_ModuleReader_read {d : Nat} {a2 : Int32} {σ : fkS} {Q : Option Value → fkS → Prop} 
  (h : (Dv d 17 [.ref 24] σ (fun σ1 =>
  (¬ (0 : Int32) < 0 ∧ ¬ (0 : Int32) < 0 ∧ ¬ a2 < 0 ∧ (0 : Int32).toNatClampNeg + a2.toNatClampNeg ≤ 4000 ∧ (0 : Int32).toNatClampNeg + a2.toNatClampNeg ≤ 4000 ∧ (∀ i, i < a2.toNatClampNeg → fits .byte (.int (((sW σ1 σ).1 1) ((0 : Int32).toNatClampNeg + i))) = true) ∧ 
  (Cv d 18 [.ref 46, .ref 25, .int a2] (sAI (sW σ1 σ) 25 (va_cpy ((sW σ1 σ).1 1) ((sW σ1 σ).1 25) (0 : Int32).toNatClampNeg (0 : Int32).toNatClampNeg a2.toNatClampNeg)) (fun σ2 =>
  Wq 16 (d + 1) 30 [some (.ref 45), some (.ref 24), none, some (.int a2), some (.int (0 : Int32)), none] [] σ2 Q)))))) :
  Cl (d + 1) 16 [.ref 45, .ref 24, .ref 1, .int a2] σ Q := by
  exact Cl.run B_ModuleReader_read C_ModuleReader_read 18 fk_q16 ok_ModuleReader_read rfl h
set_option maxRecDepth 100000 in
set_option maxHeartbeats 4000000 in
theorem S_ModuleReader_read_30 {d : Nat} {v3 : Int32} {v4 : Int32} {σ : fkS} {Q : Option Value → fkS → Prop} 
  (h : (((8 : Int32) ≤ v4 →
    Wq 16 (d + 1) 76 [some (.ref 45), some (.ref 24), none, some (.int v3), some (.int (0 : Int32)), none] [] (sI σ 45 2 (0 : Int32)) Q) ∧
   (¬ (8 : Int32) ≤ v4 →
    (Di d 20 [.ref 46] σ (fun x2 σ1 =>
    ((x2 = 0 →
      Wq 16 (d + 1) 76 [some (.ref 45), some (.ref 24), none, some (.int v3), some (.int (0 : Int32)), none] [] (sI (sW σ1 σ) 45 2 (0 : Int32)) Q) ∧
     (¬ x2 = 0 →
      (vp_in v4 8 ∧
      (Dv d 21 [.ref 46, .int (fk_hd v4.toNatClampNeg)] (sW σ1 σ) (fun σ3 =>
      Wq 16 (d + 1) 30 [some (.ref 45), some (.ref 24), none, some (.int v3), some (.int (v4 + (1 : Int32))), none] [] (sW σ3 σ) Q)))))))))) :
  Wq 16 (d + 1) 30 [some (.ref 45), some (.ref 24), none, some (.int v3), some (.int v4), none] [] σ Q := by
  exact fk_run_sound (B := B_ModuleReader_read) (C := C_ModuleReader_read) (n := 18) ok_ModuleReader_read h
set_option maxRecDepth 100000 in
set_option maxHeartbeats 4000000 in
theorem S_ModuleReader_read_76 {d : Nat} {v3 : Int32} {v4 : Int32} {σ : fkS} {Q : Option Value → fkS → Prop} 
  (h : (((4000 : Int32) ≤ v4 →
    (((σ.1 24 3) = (σ.1 36 0) →
      Q none σ) ∧
     (¬ (σ.1 24 3) = (σ.1 36 0) →
      (Dv d 22 [.ref 46, .int (-1 : Int32), .int v3] σ (fun σ1 =>
      Q none (sW σ1 σ)))))) ∧
   (¬ (4000 : Int32) ≤ v4 →
    (Di d 20 [.ref 46] σ (fun x3 σ2 =>
    ((x3 = 0 →
      ((((sW σ2 σ).1 24 3) = ((sW σ2 σ).1 36 0) →
        Q none (sW σ2 σ)) ∧
       (¬ ((sW σ2 σ).1 24 3) = ((sW σ2 σ).1 36 0) →
        (Dv d 22 [.ref 46, .int (-1 : Int32), .int v3] (sW σ2 σ) (fun σ4 =>
        Q none (sW σ4 σ)))))) ∧
     (¬ x3 = 0 →
      ((v3 ≤ ((sW σ2 σ).1 46 1) →
        ((((sW σ2 σ).1 24 3) = ((sW σ2 σ).1 36 0) →
          Q none (sW σ2 σ)) ∧
         (¬ ((sW σ2 σ).1 24 3) = ((sW σ2 σ).1 36 0) →
          (Dv d 22 [.ref 46, .int (-1 : Int32), .int v3] (sW σ2 σ) (fun σ5 =>
          Q none (sW σ5 σ)))))) ∧
       (¬ v3 ≤ ((sW σ2 σ).1 46 1) →
        (Di d 23 [.ref 45] (sW σ2 σ) (fun x7 σ6 =>
        ((¬ x7 = (10 : Int32) →
          (Dv d 47 [.ref 45, .ref 24, .int x7] (sW σ6 σ) (fun σ8 =>
          (Dv d 46 [.ref 46, .int v3] (sW σ8 σ) (fun σ9 =>
          Wq 16 (d + 1) 76 [some (.ref 45), some (.ref 24), none, some (.int v3), some (.int (v4 + (1 : Int32))), none] [] (sW σ9 σ) Q))))) ∧
         (x7 = (10 : Int32) →
          (Dv d 27 [.ref 48, .ref 46, .ref 36] (sW σ6 σ) (fun σ10 =>
          (Dv d 46 [.ref 46, .int v3] (sW σ10 σ) (fun σ11 =>
          Wq 16 (d + 1) 76 [some (.ref 45), some (.ref 24), none, some (.int v3), some (.int (v4 + (1 : Int32))), none] [] (sW σ11 σ) Q))))))))))))))))) :
  Wq 16 (d + 1) 76 [some (.ref 45), some (.ref 24), none, some (.int v3), some (.int v4), none] [] σ Q := by
  exact fk_run_sound (B := B_ModuleReader_read) (C := C_ModuleReader_read) (n := 18) ok_ModuleReader_read h
def B_ModuleRows_clear : fkB := [(0, [(.aload_n 0, 1, []), (.iconst 0, 1, []), (.putfield 54, 3, [6, 1, 381, 0]), (.aload_n 0, 1, []), (.iconst 0, 1, []), (.putfield 58, 3, [6, 3, 387, 0]), (.aload_n 0, 1, []), (.iconst 0, 1, []), (.putfield 61, 3, [6, 5, 397, 0]), (.aload_n 0, 1, []), (.iconst 0, 1, []), (.putfield 64, 3, [6, 7, 405, 0]), (.aload_n 0, 1, []), (.iconst 0, 1, []), (.putfield 67, 3, [6, 9, 414, 0]), (.aload_n 0, 1, []), (.iconst 0, 1, []), (.putfield 70, 3, [6, 12, 425, 0]), (.aload_n 0, 1, []), (.iconst 0, 1, []), (.putfield 73, 3, [6, 14, 434, 0]), (.aload_n 0, 1, []), (.iconst 0, 1, []), (.putfield 76, 3, [6, 17, 444, 0]), (.aload_n 0, 1, []), (.getfield 50, 3, [6, 19, 451, 0]), (.iconst 0, 1, []), (.putfield 79, 3, [2, 0, 311, 1]), (.aload_n 0, 1, []), (.getfield 50, 3, [6, 19, 451, 0]), (.iconst 0, 1, []), (.putfield 82, 3, [2, 5, 330, 1]), (.aload_n 0, 1, []), (.getfield 50, 3, [6, 19, 451, 0]), (.iconst 0, 1, []), (.putfield 85, 3, [2, 9, 345, 1]), (.return_, 1, [])])]
set_option maxRecDepth 100000 in
theorem ok_ModuleRows_clear : fk_okM 17 B_ModuleRows_clear = true := by decide +kernel
abbrev C_ModuleRows_clear : fkC := []
set_option maxRecDepth 100000 in
set_option maxHeartbeats 4000000 in
theorem S_ModuleRows_clear {d : Nat}  {σ : fkS} {Q : Option Value → fkS → Prop} 
  (h : Q none (sI (sI (sI (sI (sI (sI (sI (sI (sI (sI (sI σ 24 1 (0 : Int32)) 24 3 (0 : Int32)) 24 5 (0 : Int32)) 24 7 (0 : Int32)) 24 9 (0 : Int32)) 24 12 (0 : Int32)) 24 14 (0 : Int32)) 24 17 (0 : Int32)) 36 0 (0 : Int32)) 36 5 (0 : Int32)) 36 9 (0 : Int32))) :
  Cl d 17 [.ref 24] σ Q := by
  exact Cl.run B_ModuleRows_clear C_ModuleRows_clear 4 fk_q17 ok_ModuleRows_clear rfl h
def B_Scan_begin : fkB := [(0, [(.aload_n 0, 1, []), (.aload_n 1, 1, []), (.putfield 9, 3, [10, 0, 508, 0]), (.aload_n 0, 1, []), (.iconst 0, 1, []), (.putfield 15, 3, [10, 1, 510, 0]), (.aload_n 0, 1, []), (.iload_n 2, 1, []), (.aload_n 1, 1, []), (.arraylength, 1, []), (.invokestatic 28, 3, [1002, 0, 959]), (.putfield 19, 3, [10, 2, 513, 0]), (.aload_n 0, 1, []), (.iconst 0, 1, []), (.putfield 22, 3, [10, 3, 516, 0]), (.aload_n 0, 1, []), (.iconst (-1), 1, []), (.putfield 25, 3, [10, 4, 518, 0]), (.return_, 1, [])])]
set_option maxRecDepth 100000 in
theorem ok_Scan_begin : fk_okM 18 B_Scan_begin = true := by decide +kernel
abbrev C_Scan_begin : fkC := []
set_option maxRecDepth 100000 in
set_option maxHeartbeats 4000000 in
theorem S_Scan_begin {d : Nat} {a1 : Int32} {σ : fkS} {Q : Option Value → fkS → Prop} 
  (h : Q none (sI (sI (sI (sI (sR σ 46 0 26) 46 1 (0 : Int32)) 46 2 (if (4000 : Int32) < a1 then (4000 : Int32) else a1)) 46 3 (0 : Int32)) 46 4 (-1 : Int32))) :
  Cl (d + 1) 18 [.ref 46, .ref 25, .int a1] σ Q := by
  exact Cl.run B_Scan_begin C_Scan_begin 4 fk_q18 ok_Scan_begin rfl h
def B_Scan_fine : fkB := [(0, [(.aload_n 0, 1, []), (.getfield 22, 3, [10, 3, 516, 0]), (.ifCond .ne 7, 3, [11])]),
  (7, [(.iconst 1, 1, []), (.goto 4, 3, [12])]),
  (11, [(.iconst 0, 1, [])]),
  (12, [(.ireturn, 1, [])])]
set_option maxRecDepth 100000 in
theorem ok_Scan_fine : fk_okM 20 B_Scan_fine = true := by decide +kernel
abbrev C_Scan_fine : fkC := []
set_option maxRecDepth 100000 in
set_option maxHeartbeats 4000000 in
theorem S_Scan_fine {d : Nat}  {σ : fkS} {Q : Option Value → fkS → Prop} 
  (h : ((¬ (σ.1 46 3) = 0 →
    Q (some (.int (0 : Int32))) σ) ∧
   ((σ.1 46 3) = 0 →
    Q (some (.int (1 : Int32))) σ))) :
  Cl d 20 [.ref 46] σ Q := by
  exact Cl.run B_Scan_fine C_Scan_fine 7 fk_q20 ok_Scan_fine rfl h
def B_Scan_expect : fkB := [(0, [(.aload_n 0, 1, []), (.getfield 15, 3, [10, 1, 510, 0]), (.aload_n 0, 1, []), (.getfield 19, 3, [10, 2, 513, 0]), (.if_icmp .ge 20, 3, [28])]),
  (11, [(.aload_n 0, 1, []), (.getfield 9, 3, [10, 0, 508, 0]), (.aload_n 0, 1, []), (.getfield 15, 3, [10, 1, 510, 0]), (.baload, 1, []), (.sipush 255, 3, []), (.iand, 1, []), (.iload_n 1, 1, []), (.if_icmp .eq 20, 3, [45])]),
  (28, [(.aload_n 0, 1, []), (.iconst (-1), 1, []), (.aload_n 0, 1, []), (.getfield 15, 3, [10, 1, 510, 0]), (.aload_n 0, 1, []), (.getfield 19, 3, [10, 2, 513, 0]), (.invokestatic 28, 3, [1002, 0, 959]), (.invokevirtual 34, 3, [22, 2, 972, 0, 3, 10]), (.return_, 1, [])]),
  (45, [(.aload_n 0, 1, []), (.dup, 1, []), (.getfield 15, 3, [10, 1, 510, 0]), (.iconst 1, 1, []), (.iadd, 1, []), (.putfield 15, 3, [10, 1, 510, 0]), (.return_, 1, [])])]
set_option maxRecDepth 100000 in
theorem ok_Scan_expect : fk_okM 21 B_Scan_expect = true := by decide +kernel
abbrev C_Scan_expect : fkC := []
set_option maxRecDepth 100000 in
set_option maxHeartbeats 4000000 in
theorem S_Scan_expect {d : Nat} {a0 : Int32} {σ : fkS} {Q : Option Value → fkS → Prop} (h46_0 : σ.2.2 46 0 = 26)
  (h : (((σ.1 46 2) ≤ (σ.1 46 1) →
    (Dv d 22 [.ref 46, .int (-1 : Int32), .int (if (σ.1 46 2) < (σ.1 46 1) then (σ.1 46 2) else (σ.1 46 1))] σ (fun σ1 =>
    Q none (sW σ1 σ)))) ∧
   (¬ (σ.1 46 2) ≤ (σ.1 46 1) →
    (¬ (26 : Nat) = 0 ∧
    (vp_in (σ.1 46 1) 4000 ∧
    ((((σ.1 25 ((σ.1 46 1).toNatClampNeg)) &&& (255 : Int32)) = a0 →
      Q none (sI σ 46 1 ((σ.1 46 1) + (1 : Int32)))) ∧
     (¬ ((σ.1 25 ((σ.1 46 1).toNatClampNeg)) &&& (255 : Int32)) = a0 →
      (Dv d 22 [.ref 46, .int (-1 : Int32), .int (if (σ.1 46 2) < (σ.1 46 1) then (σ.1 46 2) else (σ.1 46 1))] σ (fun σ2 =>
      Q none (sW σ2 σ)))))))))) :
  Cl (d + 1) 21 [.ref 46, .int a0] σ Q := by
  rw [← sR_eta h46_0] at h ⊢
  exact Cl.run B_Scan_expect C_Scan_expect 7 fk_q21 ok_Scan_expect rfl h
def B_Scan_fail : fkB := [(0, [(.aload_n 0, 1, []), (.getfield 22, 3, [10, 3, 516, 0]), (.ifCond .ne 13, 3, [17])]),
  (7, [(.aload_n 0, 1, []), (.iload_n 1, 1, []), (.putfield 22, 3, [10, 3, 516, 0]), (.aload_n 0, 1, []), (.iload_n 2, 1, []), (.putfield 25, 3, [10, 4, 518, 0])]),
  (17, [(.return_, 1, [])])]
set_option maxRecDepth 100000 in
theorem ok_Scan_fail : fk_okM 22 B_Scan_fail = true := by decide +kernel
abbrev C_Scan_fail : fkC := []
set_option maxRecDepth 100000 in
set_option maxHeartbeats 4000000 in
theorem S_Scan_fail {d : Nat} {a0 : Int32} {a1 : Int32} {σ : fkS} {Q : Option Value → fkS → Prop} 
  (h : ((¬ (σ.1 46 3) = 0 →
    Q none σ) ∧
   ((σ.1 46 3) = 0 →
    Q none (sI (sI σ 46 3 a0) 46 4 a1)))) :
  Cl d 22 [.ref 46, .int a0, .int a1] σ Q := by
  exact Cl.run B_Scan_fail C_Scan_fail 6 fk_q22 ok_Scan_fail rfl h
def B_ModuleReader_sectionId : fkB := [(0, [(.aload_n 0, 1, []), (.getfield 12, 3, [5, 0, 544, 0]), (.getfield 60, 3, [10, 1, 511, 1]), (.istore_n 1, 1, []), (.aload_n 0, 1, []), (.getfield 12, 3, [5, 0, 544, 0]), (.invokevirtual 94, 3, [24, 0, 980, 1, 4, 10]), (.istore_n 2, 1, []), (.iload_n 2, 1, []), (.iconst 2, 1, []), (.if_icmp .eq 15, 3, [33])]),
  (21, [(.iload_n 2, 1, []), (.bipush 8, 2, []), (.if_icmp .eq 9, 3, [33])]),
  (27, [(.iload_n 2, 1, []), (.bipush 11, 2, []), (.if_icmp .ne 16, 3, [46])]),
  (33, [(.aload_n 0, 1, []), (.getfield 12, 3, [5, 0, 544, 0]), (.bipush (-2), 2, []), (.iload_n 1, 1, []), (.invokevirtual 90, 3, [22, 2, 984, 1, 3, 10]), (.goto 30, 3, [73])]),
  (46, [(.iload_n 2, 1, []), (.bipush 11, 2, []), (.if_icmp .gt 15, 3, [64])]),
  (52, [(.iload_n 2, 1, []), (.ifCond .eq 20, 3, [73])]),
  (56, [(.iload_n 2, 1, []), (.aload_n 0, 1, []), (.getfield 56, 3, [5, 2, 547, 0]), (.if_icmp .gt 12, 3, [73])]),
  (64, [(.aload_n 0, 1, []), (.getfield 12, 3, [5, 0, 544, 0]), (.iconst (-1), 1, []), (.iload_n 1, 1, []), (.invokevirtual 90, 3, [22, 2, 984, 1, 3, 10])]),
  (73, [(.aload_n 0, 1, []), (.getfield 12, 3, [5, 0, 544, 0]), (.invokevirtual 48, 3, [20, 0, 964, 1, 4, 10]), (.ifCond .eq 26, 3, [106])]),
  (83, [(.aload_n 0, 1, []), (.getfield 12, 3, [5, 0, 544, 0]), (.invokevirtual 97, 3, [25, 0, 985, 1, 3, 10]), (.aload_n 0, 1, []), (.iload_n 2, 1, []), (.ifCond .ne 10, 3, [102])]),
  (95, [(.aload_n 0, 1, []), (.getfield 56, 3, [5, 2, 547, 0]), (.goto 4, 3, [103])]),
  (102, [(.iload_n 2, 1, [])]),
  (103, [(.putfield 56, 3, [5, 2, 547, 0])]),
  (106, [(.iload_n 2, 1, []), (.ireturn, 1, [])])]
set_option maxRecDepth 100000 in
theorem ok_ModuleReader_sectionId : fk_okM 23 B_ModuleReader_sectionId = true := by decide +kernel
abbrev C_ModuleReader_sectionId : fkC := [(73, [true, false, true])]
set_option maxRecDepth 100000 in
set_option maxHeartbeats 4000000 in
theorem S_ModuleReader_sectionId {d : Nat}  {σ : fkS} {Q : Option Value → fkS → Prop} 
  (h : (Di d 24 [.ref 46] σ (fun x2 σ1 =>
  ((x2 = (2 : Int32) →
    (Dv d 22 [.ref 46, .int (-2 : Int32), .int (σ.1 46 1)] (sW σ1 σ) (fun σ3 =>
    Wq 23 (d + 1) 73 [some (.ref 45), none, some (.int x2)] [] (sW σ3 σ) Q))) ∧
   (¬ x2 = (2 : Int32) →
    ((x2 = (8 : Int32) →
      (Dv d 22 [.ref 46, .int (-2 : Int32), .int (σ.1 46 1)] (sW σ1 σ) (fun σ4 =>
      Wq 23 (d + 1) 73 [some (.ref 45), none, some (.int x2)] [] (sW σ4 σ) Q))) ∧
     (¬ x2 = (8 : Int32) →
      ((¬ x2 = (11 : Int32) →
        (((11 : Int32) < x2 →
          (Dv d 22 [.ref 46, .int (-1 : Int32), .int (σ.1 46 1)] (sW σ1 σ) (fun σ5 =>
          Wq 23 (d + 1) 73 [some (.ref 45), none, some (.int x2)] [] (sW σ5 σ) Q))) ∧
         (¬ (11 : Int32) < x2 →
          ((x2 = 0 →
            Wq 23 (d + 1) 73 [some (.ref 45), none, some (.int x2)] [] (sW σ1 σ) Q) ∧
           (¬ x2 = 0 →
            ((((sW σ1 σ).1 45 2) < x2 →
              Wq 23 (d + 1) 73 [some (.ref 45), none, some (.int x2)] [] (sW σ1 σ) Q) ∧
             (¬ ((sW σ1 σ).1 45 2) < x2 →
              (Dv d 22 [.ref 46, .int (-1 : Int32), .int (σ.1 46 1)] (sW σ1 σ) (fun σ6 =>
              Wq 23 (d + 1) 73 [some (.ref 45), none, some (.int x2)] [] (sW σ6 σ) Q))))))))) ∧
       (x2 = (11 : Int32) →
        (Dv d 22 [.ref 46, .int (-2 : Int32), .int (σ.1 46 1)] (sW σ1 σ) (fun σ7 =>
        Wq 23 (d + 1) 73 [some (.ref 45), none, some (.int x2)] [] (sW σ7 σ) Q))))))))))) :
  Cl (d + 1) 23 [.ref 45] σ Q := by
  exact Cl.run B_ModuleReader_sectionId C_ModuleReader_sectionId 17 fk_q23 ok_ModuleReader_sectionId rfl h
set_option maxRecDepth 100000 in
set_option maxHeartbeats 4000000 in
theorem S_ModuleReader_sectionId_73 {d : Nat} {v2 : Int32} {σ : fkS} {Q : Option Value → fkS → Prop} 
  (h : (Di d 20 [.ref 46] σ (fun x2 σ1 =>
  ((x2 = 0 →
    Q (some (.int v2)) (sW σ1 σ)) ∧
   (¬ x2 = 0 →
    (Dv d 25 [.ref 46] (sW σ1 σ) (fun σ3 =>
    ((¬ v2 = 0 →
      Q (some (.int v2)) (sI (sW σ3 σ) 45 2 v2)) ∧
     (v2 = 0 →
      Q (some (.int v2)) (sI (sW σ3 σ) 45 2 ((sW σ3 σ).1 45 2))))))))))) :
  Wq 23 (d + 1) 73 [some (.ref 45), none, some (.int v2)] [] σ Q := by
  exact fk_run_sound (B := B_ModuleReader_sectionId) (C := C_ModuleReader_sectionId) (n := 17) ok_ModuleReader_sectionId h
def B_Scan_next : fkB := [(0, [(.aload_n 0, 1, []), (.getfield 15, 3, [10, 1, 510, 0]), (.aload_n 0, 1, []), (.getfield 19, 3, [10, 2, 513, 0]), (.if_icmp .lt 14, 3, [22])]),
  (11, [(.aload_n 0, 1, []), (.iconst (-1), 1, []), (.aload_n 0, 1, []), (.getfield 19, 3, [10, 2, 513, 0]), (.invokevirtual 34, 3, [22, 2, 972, 0, 3, 10]), (.iconst 0, 1, []), (.ireturn, 1, [])]),
  (22, [(.aload_n 0, 1, []), (.getfield 9, 3, [10, 0, 508, 0]), (.aload_n 0, 1, []), (.getfield 15, 3, [10, 1, 510, 0]), (.baload, 1, []), (.sipush 255, 3, []), (.iand, 1, []), (.istore_n 1, 1, []), (.aload_n 0, 1, []), (.dup, 1, []), (.getfield 15, 3, [10, 1, 510, 0]), (.iconst 1, 1, []), (.iadd, 1, []), (.putfield 15, 3, [10, 1, 510, 0]), (.iload_n 1, 1, []), (.ireturn, 1, [])])]
set_option maxRecDepth 100000 in
theorem ok_Scan_next : fk_okM 24 B_Scan_next = true := by decide +kernel
abbrev C_Scan_next : fkC := []
set_option maxRecDepth 100000 in
set_option maxHeartbeats 4000000 in
theorem S_Scan_next {d : Nat}  {σ : fkS} {Q : Option Value → fkS → Prop} (h46_0 : σ.2.2 46 0 = 26)
  (h : (((σ.1 46 1) < (σ.1 46 2) →
    (¬ (26 : Nat) = 0 ∧
    (vp_in (σ.1 46 1) 4000 ∧
    Q (some (.int ((σ.1 25 ((σ.1 46 1).toNatClampNeg)) &&& (255 : Int32)))) (sI σ 46 1 ((σ.1 46 1) + (1 : Int32)))))) ∧
   (¬ (σ.1 46 1) < (σ.1 46 2) →
    (Dv d 22 [.ref 46, .int (-1 : Int32), .int (σ.1 46 2)] σ (fun σ1 =>
    Q (some (.int (0 : Int32))) (sW σ1 σ)))))) :
  Cl (d + 1) 24 [.ref 46] σ Q := by
  rw [← sR_eta h46_0] at h ⊢
  exact Cl.run B_Scan_next C_Scan_next 6 fk_q24 ok_Scan_next rfl h
def B_Scan_narrow : fkB := [(0, [(.aload_n 0, 1, []), (.getfield 15, 3, [10, 1, 510, 0]), (.istore_n 1, 1, []), (.aload_n 0, 1, []), (.invokevirtual 40, 3, [26, 0, 989, 0, 5, 10]), (.lstore_n 2, 1, []), (.lload_n 2, 1, []), (.aload_n 0, 1, []), (.getfield 19, 3, [10, 2, 513, 0]), (.aload_n 0, 1, []), (.getfield 15, 3, [10, 1, 510, 0]), (.isub, 1, []), (.i2l, 1, []), (.lcmp, 1, []), (.ifCond .le 12, 3, [34])]),
  (25, [(.aload_n 0, 1, []), (.iconst (-1), 1, []), (.iload_n 1, 1, []), (.invokevirtual 34, 3, [22, 2, 972, 0, 3, 10]), (.goto 21, 3, [52])]),
  (34, [(.aload_n 0, 1, []), (.getfield 22, 3, [10, 3, 516, 0]), (.ifCond .ne 14, 3, [52])]),
  (41, [(.aload_n 0, 1, []), (.aload_n 0, 1, []), (.getfield 15, 3, [10, 1, 510, 0]), (.lload_n 2, 1, []), (.l2i, 1, []), (.iadd, 1, []), (.putfield 19, 3, [10, 2, 513, 0])]),
  (52, [(.return_, 1, [])])]
set_option maxRecDepth 100000 in
theorem ok_Scan_narrow : fk_okM 25 B_Scan_narrow = true := by decide +kernel
abbrev C_Scan_narrow : fkC := []
set_option maxRecDepth 100000 in
set_option maxHeartbeats 4000000 in
theorem S_Scan_narrow {d : Nat}  {σ : fkS} {Q : Option Value → fkS → Prop} 
  (h : (Dj d 26 [.ref 46] σ (fun x2 σ1 =>
  (((lg_cmp x2 ((((sW σ1 σ).1 46 2) - ((sW σ1 σ).1 46 1)).toInt64)) ≤ 0 →
    ((¬ ((sW σ1 σ).1 46 3) = 0 →
      Q none (sW σ1 σ)) ∧
     (((sW σ1 σ).1 46 3) = 0 →
      Q none (sI (sW σ1 σ) 46 2 (((sW σ1 σ).1 46 1) + x2.toInt32))))) ∧
   (¬ (lg_cmp x2 ((((sW σ1 σ).1 46 2) - ((sW σ1 σ).1 46 1)).toInt64)) ≤ 0 →
    (Dv d 22 [.ref 46, .int (-1 : Int32), .int (σ.1 46 1)] (sW σ1 σ) (fun σ3 =>
    Q none (sW σ3 σ)))))))) :
  Cl (d + 1) 25 [.ref 46] σ Q := by
  exact Cl.run B_Scan_narrow C_Scan_narrow 8 fk_q25 ok_Scan_narrow rfl h
def B_Scan_unsigned : fkB := [(0, [(.aload_n 0, 1, []), (.getfield 15, 3, [10, 1, 510, 0]), (.istore_n 1, 1, []), (.lconst 0, 1, []), (.lstore_n 2, 1, []), (.iconst 0, 1, []), (.istore 4, 2, [])]),
  (10, [(.iload 4, 2, []), (.iconst 5, 1, []), (.if_icmp .ge 86, 3, [99])]),
  (16, [(.aload_n 0, 1, []), (.getfield 15, 3, [10, 1, 510, 0]), (.aload_n 0, 1, []), (.getfield 19, 3, [10, 2, 513, 0]), (.if_icmp .ge 75, 3, [99])]),
  (27, [(.aload_n 0, 1, []), (.getfield 9, 3, [10, 0, 508, 0]), (.aload_n 0, 1, []), (.getfield 15, 3, [10, 1, 510, 0]), (.baload, 1, []), (.sipush 255, 3, []), (.iand, 1, []), (.istore 5, 2, []), (.aload_n 0, 1, []), (.dup, 1, []), (.getfield 15, 3, [10, 1, 510, 0]), (.iconst 1, 1, []), (.iadd, 1, []), (.putfield 15, 3, [10, 1, 510, 0]), (.iload 4, 2, []), (.iconst 4, 1, []), (.if_icmp .ne 13, 3, [68])]),
  (58, [(.iload 5, 2, []), (.bipush 16, 2, []), (.if_icmp .lt 6, 3, [68])]),
  (65, [(.goto 34, 3, [99])]),
  (68, [(.lload_n 2, 1, []), (.iload 5, 2, []), (.bipush 127, 2, []), (.iand, 1, []), (.i2l, 1, []), (.bipush 7, 2, []), (.iload 4, 2, []), (.imul, 1, []), (.lshl, 1, []), (.lor, 1, []), (.lstore_n 2, 1, []), (.iload 5, 2, []), (.sipush 128, 3, []), (.if_icmp .ge 5, 3, [93])]),
  (91, [(.lload_n 2, 1, []), (.lreturn, 1, [])]),
  (93, [(.iinc 4 1, 3, []), (.goto (-86), 3, [10])]),
  (99, [(.aload_n 0, 1, []), (.iconst (-1), 1, []), (.iload_n 1, 1, []), (.invokevirtual 34, 3, [22, 2, 972, 0, 3, 10]), (.lconst 0, 1, []), (.lreturn, 1, [])])]
set_option maxRecDepth 100000 in
theorem ok_Scan_unsigned : fk_okM 26 B_Scan_unsigned = true := by decide +kernel
abbrev C_Scan_unsigned : fkC := [(10, [true, true, true, false, true, false]), (68, [true, true, true, false, true, true])]
set_option maxRecDepth 100000 in
set_option maxHeartbeats 4000000 in
theorem S_Scan_unsigned {d : Nat}  {σ : fkS} {Q : Option Value → fkS → Prop} 
  (h : Wq 26 (d + 1) 10 [some (.ref 46), some (.int (σ.1 46 1)), some (.long (0 : Int64)), none, some (.int (0 : Int32)), none] [] σ Q) :
  Cl (d + 1) 26 [.ref 46] σ Q := by
  exact Cl.run B_Scan_unsigned C_Scan_unsigned 13 fk_q26 ok_Scan_unsigned rfl h
set_option maxRecDepth 100000 in
set_option maxHeartbeats 4000000 in
theorem S_Scan_unsigned_10 {d : Nat} {v1 : Int32} {v2 : Int64} {v4 : Int32} {σ : fkS} {Q : Option Value → fkS → Prop} (h46_0 : σ.2.2 46 0 = 26)
  (h : (((5 : Int32) ≤ v4 →
    (Dv d 22 [.ref 46, .int (-1 : Int32), .int v1] σ (fun σ1 =>
    Q (some (.long (0 : Int64))) (sW σ1 σ)))) ∧
   (¬ (5 : Int32) ≤ v4 →
    (((σ.1 46 2) ≤ (σ.1 46 1) →
      (Dv d 22 [.ref 46, .int (-1 : Int32), .int v1] σ (fun σ2 =>
      Q (some (.long (0 : Int64))) (sW σ2 σ)))) ∧
     (¬ (σ.1 46 2) ≤ (σ.1 46 1) →
      (¬ (26 : Nat) = 0 ∧
      (vp_in (σ.1 46 1) 4000 ∧
      ((¬ v4 = (4 : Int32) →
        Wq 26 (d + 1) 68 [some (.ref 46), some (.int v1), some (.long v2), none, some (.int v4), some (.int ((σ.1 25 ((σ.1 46 1).toNatClampNeg)) &&& (255 : Int32)))] [] (sI σ 46 1 ((σ.1 46 1) + (1 : Int32))) Q) ∧
       (v4 = (4 : Int32) →
        ((((σ.1 25 ((σ.1 46 1).toNatClampNeg)) &&& (255 : Int32)) < (16 : Int32) →
          Wq 26 (d + 1) 68 [some (.ref 46), some (.int v1), some (.long v2), none, some (.int v4), some (.int ((σ.1 25 ((σ.1 46 1).toNatClampNeg)) &&& (255 : Int32)))] [] (sI σ 46 1 ((σ.1 46 1) + (1 : Int32))) Q) ∧
         (¬ ((σ.1 25 ((σ.1 46 1).toNatClampNeg)) &&& (255 : Int32)) < (16 : Int32) →
          (Dv d 22 [.ref 46, .int (-1 : Int32), .int v1] (sI σ 46 1 ((σ.1 46 1) + (1 : Int32))) (fun σ3 =>
          Q (some (.long (0 : Int64))) (sW σ3 σ)))))))))))))) :
  Wq 26 (d + 1) 10 [some (.ref 46), some (.int v1), some (.long v2), none, some (.int v4), none] [] σ Q := by
  rw [← sR_eta h46_0] at h ⊢
  exact fk_run_sound (B := B_Scan_unsigned) (C := C_Scan_unsigned) (n := 13) ok_Scan_unsigned h
set_option maxRecDepth 100000 in
set_option maxHeartbeats 4000000 in
theorem S_Scan_unsigned_68 {d : Nat} {v1 : Int32} {v2 : Int64} {v4 : Int32} {v5 : Int32} {σ : fkS} {Q : Option Value → fkS → Prop} 
  (h : (((128 : Int32) ≤ v5 →
    Wq 26 (d + 1) 10 [some (.ref 46), some (.int v1), some (.long (v2 ||| (fk_lshl ((v5 &&& (127 : Int32)).toInt64) ((7 : Int32) * v4)))), none, some (.int (v4 + (1 : Int32))), none] [] σ Q) ∧
   (¬ (128 : Int32) ≤ v5 →
    Q (some (.long (v2 ||| (fk_lshl ((v5 &&& (127 : Int32)).toInt64) ((7 : Int32) * v4))))) σ))) :
  Wq 26 (d + 1) 68 [some (.ref 46), some (.int v1), some (.long v2), none, some (.int v4), some (.int v5)] [] σ Q := by
  exact fk_run_sound (B := B_Scan_unsigned) (C := C_Scan_unsigned) (n := 13) ok_Scan_unsigned h
def B_CodeReader_read : fkB := [(0, [(.aload_n 1, 1, []), (.getfield 15, 3, [10, 2, 515, 1]), (.istore_n 3, 1, []), (.aload_n 1, 1, []), (.invokevirtual 21, 3, [20, 0, 997, 1, 4, 10]), (.ifCond .eq 10, 3, [19])]),
  (12, [(.aload_n 1, 1, []), (.invokevirtual 25, 3, [28, 0, 998, 1, 4, 10]), (.goto 4, 3, [20])]),
  (19, [(.iconst 0, 1, [])]),
  (20, [(.istore 4, 2, []), (.iconst 0, 1, []), (.istore 5, 2, [])]),
  (25, [(.iload 5, 2, []), (.iload 4, 2, []), (.if_icmp .ge 116, 3, [145])]),
  (32, [(.aload_n 1, 1, []), (.invokevirtual 21, 3, [20, 0, 997, 1, 4, 10]), (.ifCond .eq 109, 3, [145])]),
  (39, [(.aload_n 1, 1, []), (.invokevirtual 29, 3, [25, 0, 1003, 1, 3, 10]), (.aload_n 0, 1, []), (.aload_n 1, 1, []), (.aload_n 2, 1, []), (.iload 5, 2, []), (.invokevirtual 32, 3, [29, 3, 1004, 0, 3, 1]), (.aload_n 2, 1, []), (.getfield 36, 3, [2, 1, 315, 1]), (.iload 5, 2, []), (.aload_n 2, 1, []), (.getfield 41, 3, [2, 5, 331, 1]), (.iastore, 1, []), (.aload_n 0, 1, []), (.iconst 0, 1, []), (.putfield 44, 3, [1, 1, 538, 0]), (.iconst 0, 1, []), (.istore 6, 2, []), (.iconst 0, 1, []), (.istore 7, 2, [])]),
  (73, [(.iload 7, 2, []), (.sipush 4000, 3, []), (.if_icmp .ge 29, 3, [107])]),
  (81, [(.aload_n 1, 1, []), (.invokevirtual 21, 3, [20, 0, 997, 1, 4, 10]), (.ifCond .eq 22, 3, [107])]),
  (88, [(.iload 6, 2, []), (.ifCond .ne 17, 3, [107])]),
  (93, [(.aload_n 0, 1, []), (.aload_n 1, 1, []), (.aload_n 2, 1, []), (.invokevirtual 47, 3, [31, 2, 1016, 0, 4, 1]), (.istore 6, 2, []), (.iinc 7 1, 3, []), (.goto (-31), 3, [73])]),
  (107, [(.aload_n 2, 1, []), (.getfield 51, 3, [2, 2, 319, 1]), (.iload 5, 2, []), (.iconst 0, 1, []), (.aload_n 2, 1, []), (.getfield 41, 3, [2, 5, 331, 1]), (.iconst 1, 1, []), (.isub, 1, []), (.invokestatic 54, 3, [1001, 0, 1072]), (.iastore, 1, []), (.aload_n 2, 1, []), (.dup, 1, []), (.getfield 60, 3, [2, 0, 313, 1]), (.iconst 1, 1, []), (.iadd, 1, []), (.putfield 60, 3, [2, 0, 313, 1]), (.aload_n 1, 1, []), (.iload_n 3, 1, []), (.invokevirtual 63, 3, [46, 1, 1075, 1, 3, 10]), (.iinc 5 1, 3, []), (.goto (-117), 3, [25])]),
  (145, [(.return_, 1, [])])]
set_option maxRecDepth 100000 in
theorem ok_CodeReader_read : fk_okM 27 B_CodeReader_read = true := by decide +kernel
abbrev C_CodeReader_read : fkC := [(25, [true, true, true, true, true, true, false, false]), (73, [true, true, true, true, true, true, true, true]), (107, [true, true, true, true, true, true, false, false])]
set_option maxRecDepth 100000 in
set_option maxHeartbeats 4000000 in
theorem S_CodeReader_read {d : Nat}  {σ : fkS} {Q : Option Value → fkS → Prop} 
  (h : (Di d 20 [.ref 46] σ (fun x2 σ1 =>
  ((x2 = 0 →
    Wq 27 (d + 1) 25 [some (.ref 48), some (.ref 46), some (.ref 36), some (.int (σ.1 46 2)), some (.int (0 : Int32)), some (.int (0 : Int32)), none, none] [] (sW σ1 σ) Q) ∧
   (¬ x2 = 0 →
    (Di d 28 [.ref 46] (sW σ1 σ) (fun x4 σ3 =>
    Wq 27 (d + 1) 25 [some (.ref 48), some (.ref 46), some (.ref 36), some (.int (σ.1 46 2)), some (.int x4), some (.int (0 : Int32)), none, none] [] (sW σ3 σ) Q))))))) :
  Cl (d + 1) 27 [.ref 48, .ref 46, .ref 36] σ Q := by
  exact Cl.run B_CodeReader_read C_CodeReader_read 16 fk_q27 ok_CodeReader_read rfl h
set_option maxRecDepth 100000 in
set_option maxHeartbeats 4000000 in
theorem S_CodeReader_read_25 {d : Nat} {v3 : Int32} {v4 : Int32} {v5 : Int32} {σ : fkS} {Q : Option Value → fkS → Prop} 
  (h : ((v4 ≤ v5 →
    Q none σ) ∧
   (¬ v4 ≤ v5 →
    (Di d 20 [.ref 46] σ (fun x2 σ1 =>
    ((x2 = 0 →
      Q none (sW σ1 σ)) ∧
     (¬ x2 = 0 →
      (Dv d 25 [.ref 46] (sW σ1 σ) (fun σ3 =>
      (Dv d 29 [.ref 48, .ref 46, .ref 36, .int v5] (sW σ3 σ) (fun σ4 =>
      (vp_in v5 60 ∧
      Wq 27 (d + 1) 73 [some (.ref 48), some (.ref 46), some (.ref 36), some (.int v3), some (.int v4), some (.int v5), some (.int (0 : Int32)), some (.int (0 : Int32))] [] (sI (sI (sW σ4 σ) 37 v5.toNatClampNeg ((sW σ4 σ).1 36 5)) 48 1 (0 : Int32)) Q)))))))))))) :
  Wq 27 (d + 1) 25 [some (.ref 48), some (.ref 46), some (.ref 36), some (.int v3), some (.int v4), some (.int v5), none, none] [] σ Q := by
  exact fk_run_sound (B := B_CodeReader_read) (C := C_CodeReader_read) (n := 16) ok_CodeReader_read h
set_option maxRecDepth 100000 in
set_option maxHeartbeats 4000000 in
theorem S_CodeReader_read_73 {d : Nat} {v3 : Int32} {v4 : Int32} {v5 : Int32} {v6 : Int32} {v7 : Int32} {σ : fkS} {Q : Option Value → fkS → Prop} 
  (h : (((4000 : Int32) ≤ v7 →
    Wq 27 (d + 1) 107 [some (.ref 48), some (.ref 46), some (.ref 36), some (.int v3), some (.int v4), some (.int v5), none, none] [] σ Q) ∧
   (¬ (4000 : Int32) ≤ v7 →
    (Di d 20 [.ref 46] σ (fun x2 σ1 =>
    ((x2 = 0 →
      Wq 27 (d + 1) 107 [some (.ref 48), some (.ref 46), some (.ref 36), some (.int v3), some (.int v4), some (.int v5), none, none] [] (sW σ1 σ) Q) ∧
     (¬ x2 = 0 →
      ((¬ v6 = 0 →
        Wq 27 (d + 1) 107 [some (.ref 48), some (.ref 46), some (.ref 36), some (.int v3), some (.int v4), some (.int v5), none, none] [] (sW σ1 σ) Q) ∧
       (v6 = 0 →
        (Di d 31 [.ref 48, .ref 46, .ref 36] (sW σ1 σ) (fun x4 σ3 =>
        Wq 27 (d + 1) 73 [some (.ref 48), some (.ref 46), some (.ref 36), some (.int v3), some (.int v4), some (.int v5), some (.int x4), some (.int (v7 + (1 : Int32)))] [] (sW σ3 σ) Q))))))))))) :
  Wq 27 (d + 1) 73 [some (.ref 48), some (.ref 46), some (.ref 36), some (.int v3), some (.int v4), some (.int v5), some (.int v6), some (.int v7)] [] σ Q := by
  exact fk_run_sound (B := B_CodeReader_read) (C := C_CodeReader_read) (n := 16) ok_CodeReader_read h
set_option maxRecDepth 100000 in
set_option maxHeartbeats 4000000 in
theorem S_CodeReader_read_107 {d : Nat} {v3 : Int32} {v4 : Int32} {v5 : Int32} {σ : fkS} {Q : Option Value → fkS → Prop} 
  (h : (vp_in v5 60 ∧
  (Dv d 46 [.ref 46, .int v3] (sI (sI σ 38 v5.toNatClampNeg (if (0 : Int32) < ((σ.1 36 5) - (1 : Int32)) then ((σ.1 36 5) - (1 : Int32)) else (0 : Int32))) 36 0 ((σ.1 36 0) + (1 : Int32))) (fun σ1 =>
  Wq 27 (d + 1) 25 [some (.ref 48), some (.ref 46), some (.ref 36), some (.int v3), some (.int v4), some (.int (v5 + (1 : Int32))), none, none] [] (sW σ1 σ) Q)))) :
  Wq 27 (d + 1) 107 [some (.ref 48), some (.ref 46), some (.ref 36), some (.int v3), some (.int v4), some (.int v5), none, none] [] σ Q := by
  exact fk_run_sound (B := B_CodeReader_read) (C := C_CodeReader_read) (n := 16) ok_CodeReader_read h
def B_Scan_vec : fkB := [(0, [(.aload_n 0, 1, []), (.getfield 15, 3, [10, 1, 510, 0]), (.istore_n 1, 1, []), (.aload_n 0, 1, []), (.invokevirtual 40, 3, [26, 0, 989, 0, 5, 10]), (.lstore_n 2, 1, []), (.lload_n 2, 1, []), (.ldc2_w 44, 3, [60, 1002]), (.lcmp, 1, []), (.ifCond .le 10, 3, [25])]),
  (18, [(.aload_n 0, 1, []), (.bipush (-2), 2, []), (.iload_n 1, 1, []), (.invokevirtual 34, 3, [22, 2, 972, 0, 3, 10])]),
  (25, [(.aload_n 0, 1, []), (.getfield 22, 3, [10, 3, 516, 0]), (.ifCond .ne 8, 3, [37])]),
  (32, [(.lload_n 2, 1, []), (.l2i, 1, []), (.goto 4, 3, [38])]),
  (37, [(.iconst 0, 1, [])]),
  (38, [(.ireturn, 1, [])])]
set_option maxRecDepth 100000 in
theorem ok_Scan_vec : fk_okM 28 B_Scan_vec = true := by decide +kernel
abbrev C_Scan_vec : fkC := []
set_option maxRecDepth 100000 in
set_option maxHeartbeats 4000000 in
theorem S_Scan_vec {d : Nat}  {σ : fkS} {Q : Option Value → fkS → Prop} 
  (h : (Dj d 26 [.ref 46] σ (fun x2 σ1 =>
  (((lg_cmp x2 (60 : Int64)) ≤ 0 →
    ((¬ ((sW σ1 σ).1 46 3) = 0 →
      Q (some (.int (0 : Int32))) (sW σ1 σ)) ∧
     (((sW σ1 σ).1 46 3) = 0 →
      Q (some (.int x2.toInt32)) (sW σ1 σ)))) ∧
   (¬ (lg_cmp x2 (60 : Int64)) ≤ 0 →
    (Dv d 22 [.ref 46, .int (-2 : Int32), .int (σ.1 46 1)] (sW σ1 σ) (fun σ3 =>
    ((¬ ((sW σ3 σ).1 46 3) = 0 →
      Q (some (.int (0 : Int32))) (sW σ3 σ)) ∧
     (((sW σ3 σ).1 46 3) = 0 →
      Q (some (.int x2.toInt32)) (sW σ3 σ)))))))))) :
  Cl (d + 1) 28 [.ref 46] σ Q := by
  exact Cl.run B_Scan_vec C_Scan_vec 9 fk_q28 ok_Scan_vec rfl h
def B_CodeReader_locals : fkB := [(0, [(.aload_n 1, 1, []), (.invokevirtual 21, 3, [20, 0, 997, 1, 4, 10]), (.ifCond .eq 10, 3, [14])]),
  (7, [(.aload_n 1, 1, []), (.invokevirtual 25, 3, [28, 0, 998, 1, 4, 10]), (.goto 4, 3, [15])]),
  (14, [(.iconst 0, 1, [])]),
  (15, [(.istore 4, 2, []), (.iconst 0, 1, []), (.istore 5, 2, []), (.iconst 0, 1, []), (.istore 6, 2, [])]),
  (23, [(.iload 6, 2, []), (.iload 4, 2, []), (.if_icmp .ge 109, 3, [136])]),
  (30, [(.aload_n 1, 1, []), (.invokevirtual 21, 3, [20, 0, 997, 1, 4, 10]), (.ifCond .eq 102, 3, [136])]),
  (37, [(.aload_n 1, 1, []), (.getfield 67, 3, [10, 1, 512, 1]), (.istore 7, 2, []), (.aload_n 1, 1, []), (.invokevirtual 70, 3, [26, 0, 1008, 1, 5, 10]), (.lstore 8, 2, []), (.iload 5, 2, []), (.i2l, 1, []), (.lload 8, 2, []), (.ladd, 1, []), (.ldc2_w 74, 3, [50, 1009]), (.lcmp, 1, []), (.ifCond .le 11, 3, [70])]),
  (62, [(.aload_n 1, 1, []), (.bipush (-2), 2, []), (.iload 7, 2, []), (.invokevirtual 76, 3, [22, 2, 1010, 1, 3, 10])]),
  (70, [(.aload_n 1, 1, []), (.invokevirtual 21, 3, [20, 0, 997, 1, 4, 10]), (.ifCond .eq 10, 3, [84])]),
  (77, [(.aload_n 1, 1, []), (.invokevirtual 80, 3, [30, 0, 1011, 1, 4, 10]), (.goto 4, 3, [85])]),
  (84, [(.iconst 0, 1, [])]),
  (85, [(.istore 10, 2, []), (.iconst 0, 1, []), (.istore 11, 2, [])]),
  (90, [(.iload 11, 2, []), (.i2l, 1, []), (.lload 8, 2, []), (.lcmp, 1, []), (.ifCond .ge 34, 3, [130])]),
  (99, [(.aload_n 1, 1, []), (.invokevirtual 21, 3, [20, 0, 997, 1, 4, 10]), (.ifCond .eq 27, 3, [130])]),
  (106, [(.aload_n 2, 1, []), (.getfield 83, 3, [2, 4, 327, 1]), (.iload_n 3, 1, []), (.bipush 50, 2, []), (.imul, 1, []), (.iload 5, 2, []), (.iadd, 1, []), (.iload 10, 2, []), (.i2b, 1, []), (.bastore, 1, []), (.iinc 5 1, 3, []), (.iinc 11 1, 3, []), (.goto (-37), 3, [90])]),
  (130, [(.iinc 6 1, 3, []), (.goto (-110), 3, [23])]),
  (136, [(.aload_n 2, 1, []), (.getfield 87, 3, [2, 3, 323, 1]), (.iload_n 3, 1, []), (.iload 5, 2, []), (.iastore, 1, []), (.return_, 1, [])])]
set_option maxRecDepth 100000 in
theorem ok_CodeReader_locals : fk_okM 29 B_CodeReader_locals = true := by decide +kernel
abbrev C_CodeReader_locals : fkC := [(23, [false, true, true, true, true, true, true, false, false, false, false, false]), (90, [false, true, true, true, true, true, true, false, true, false, true, true])]
set_option maxRecDepth 100000 in
set_option maxHeartbeats 4000000 in
theorem S_CodeReader_locals {d : Nat} {a2 : Int32} {σ : fkS} {Q : Option Value → fkS → Prop} 
  (h : (Di d 20 [.ref 46] σ (fun x2 σ1 =>
  ((x2 = 0 →
    Wq 29 (d + 1) 23 [none, some (.ref 46), some (.ref 36), some (.int a2), some (.int (0 : Int32)), some (.int (0 : Int32)), some (.int (0 : Int32)), none, none, none, none, none] [] (sW σ1 σ) Q) ∧
   (¬ x2 = 0 →
    (Di d 28 [.ref 46] (sW σ1 σ) (fun x4 σ3 =>
    Wq 29 (d + 1) 23 [none, some (.ref 46), some (.ref 36), some (.int a2), some (.int x4), some (.int (0 : Int32)), some (.int (0 : Int32)), none, none, none, none, none] [] (sW σ3 σ) Q))))))) :
  Cl (d + 1) 29 [.ref 48, .ref 46, .ref 36, .int a2] σ Q := by
  exact Cl.run B_CodeReader_locals C_CodeReader_locals 20 fk_q29 ok_CodeReader_locals rfl h
set_option maxRecDepth 100000 in
set_option maxHeartbeats 4000000 in
theorem S_CodeReader_locals_23 {d : Nat} {v3 : Int32} {v4 : Int32} {v5 : Int32} {v6 : Int32} {σ : fkS} {Q : Option Value → fkS → Prop} 
  (h : ((v4 ≤ v6 →
    (vp_in v3 60 ∧
    Q none (sI σ 39 v3.toNatClampNeg v5))) ∧
   (¬ v4 ≤ v6 →
    (Di d 20 [.ref 46] σ (fun x2 σ1 =>
    ((x2 = 0 →
      (vp_in v3 60 ∧
      Q none (sI (sW σ1 σ) 39 v3.toNatClampNeg v5))) ∧
     (¬ x2 = 0 →
      (Dj d 26 [.ref 46] (sW σ1 σ) (fun x4 σ3 =>
      (((lg_cmp (v5.toInt64 + x4) (50 : Int64)) ≤ 0 →
        (Di d 20 [.ref 46] (sW σ3 σ) (fun x6 σ5 =>
        ((x6 = 0 →
          Wq 29 (d + 1) 90 [none, some (.ref 46), some (.ref 36), some (.int v3), some (.int v4), some (.int v5), some (.int v6), none, some (.long x4), none, some (.int (0 : Int32)), some (.int (0 : Int32))] [] (sW σ5 σ) Q) ∧
         (¬ x6 = 0 →
          (Di d 30 [.ref 46] (sW σ5 σ) (fun x8 σ7 =>
          Wq 29 (d + 1) 90 [none, some (.ref 46), some (.ref 36), some (.int v3), some (.int v4), some (.int v5), some (.int v6), none, some (.long x4), none, some (.int x8), some (.int (0 : Int32))] [] (sW σ7 σ) Q))))))) ∧
       (¬ (lg_cmp (v5.toInt64 + x4) (50 : Int64)) ≤ 0 →
        (Dv d 22 [.ref 46, .int (-2 : Int32), .int ((sW σ1 σ).1 46 1)] (sW σ3 σ) (fun σ9 =>
        (Di d 20 [.ref 46] (sW σ9 σ) (fun x11 σ10 =>
        ((x11 = 0 →
          Wq 29 (d + 1) 90 [none, some (.ref 46), some (.ref 36), some (.int v3), some (.int v4), some (.int v5), some (.int v6), none, some (.long x4), none, some (.int (0 : Int32)), some (.int (0 : Int32))] [] (sW σ10 σ) Q) ∧
         (¬ x11 = 0 →
          (Di d 30 [.ref 46] (sW σ10 σ) (fun x13 σ12 =>
          Wq 29 (d + 1) 90 [none, some (.ref 46), some (.ref 36), some (.int v3), some (.int v4), some (.int v5), some (.int v6), none, some (.long x4), none, some (.int x13), some (.int (0 : Int32))] [] (sW σ12 σ) Q))))))))))))))))))) :
  Wq 29 (d + 1) 23 [none, some (.ref 46), some (.ref 36), some (.int v3), some (.int v4), some (.int v5), some (.int v6), none, none, none, none, none] [] σ Q := by
  exact fk_run_sound (B := B_CodeReader_locals) (C := C_CodeReader_locals) (n := 20) ok_CodeReader_locals h
set_option maxRecDepth 100000 in
set_option maxHeartbeats 4000000 in
theorem S_CodeReader_locals_90 {d : Nat} {v3 : Int32} {v4 : Int32} {v5 : Int32} {v6 : Int32} {v8 : Int64} {v10 : Int32} {v11 : Int32} {σ : fkS} {Q : Option Value → fkS → Prop} 
  (h : ((0 ≤ (lg_cmp v11.toInt64 v8) →
    Wq 29 (d + 1) 23 [none, some (.ref 46), some (.ref 36), some (.int v3), some (.int v4), some (.int v5), some (.int (v6 + (1 : Int32))), none, none, none, none, none] [] σ Q) ∧
   (¬ 0 ≤ (lg_cmp v11.toInt64 v8) →
    (Di d 20 [.ref 46] σ (fun x2 σ1 =>
    ((x2 = 0 →
      Wq 29 (d + 1) 23 [none, some (.ref 46), some (.ref 36), some (.int v3), some (.int v4), some (.int v5), some (.int (v6 + (1 : Int32))), none, none, none, none, none] [] (sW σ1 σ) Q) ∧
     (¬ x2 = 0 →
      (vp_in ((v3 * (50 : Int32)) + v5) 3000 ∧
      Wq 29 (d + 1) 90 [none, some (.ref 46), some (.ref 36), some (.int v3), some (.int v4), some (.int (v5 + (1 : Int32))), some (.int v6), none, some (.long v8), none, some (.int v10), some (.int (v11 + (1 : Int32)))] [] (sI (sW σ1 σ) 40 (((v3 * (50 : Int32)) + v5).toNatClampNeg) v10.toInt8.toInt32.toInt8.toInt32) Q)))))))) :
  Wq 29 (d + 1) 90 [none, some (.ref 46), some (.ref 36), some (.int v3), some (.int v4), some (.int v5), some (.int v6), none, some (.long v8), none, some (.int v10), some (.int v11)] [] σ Q := by
  exact fk_run_sound (B := B_CodeReader_locals) (C := C_CodeReader_locals) (n := 20) ok_CodeReader_locals h
def B_Scan_valueType : fkB := [(0, [(.aload_n 0, 1, []), (.getfield 15, 3, [10, 1, 510, 0]), (.istore_n 1, 1, []), (.aload_n 0, 1, []), (.invokevirtual 46, 3, [24, 0, 1015, 0, 4, 10]), (.istore_n 2, 1, []), (.iload_n 2, 1, []), (.bipush 124, 2, []), (.if_icmp .eq 9, 3, [22])]),
  (16, [(.iload_n 2, 1, []), (.bipush 125, 2, []), (.if_icmp .ne 13, 3, [32])]),
  (22, [(.aload_n 0, 1, []), (.bipush (-2), 2, []), (.iload_n 1, 1, []), (.invokevirtual 34, 3, [22, 2, 972, 0, 3, 10]), (.goto 21, 3, [50])]),
  (32, [(.iload_n 2, 1, []), (.bipush 127, 2, []), (.if_icmp .eq 15, 3, [50])]),
  (38, [(.iload_n 2, 1, []), (.bipush 126, 2, []), (.if_icmp .eq 9, 3, [50])]),
  (44, [(.aload_n 0, 1, []), (.iconst (-1), 1, []), (.iload_n 1, 1, []), (.invokevirtual 34, 3, [22, 2, 972, 0, 3, 10])]),
  (50, [(.iload_n 2, 1, []), (.ireturn, 1, [])])]
set_option maxRecDepth 100000 in
theorem ok_Scan_valueType : fk_okM 30 B_Scan_valueType = true := by decide +kernel
abbrev C_Scan_valueType : fkC := []
set_option maxRecDepth 100000 in
set_option maxHeartbeats 4000000 in
theorem S_Scan_valueType {d : Nat}  {σ : fkS} {Q : Option Value → fkS → Prop} 
  (h : (Di d 24 [.ref 46] σ (fun x2 σ1 =>
  ((x2 = (124 : Int32) →
    (Dv d 22 [.ref 46, .int (-2 : Int32), .int (σ.1 46 1)] (sW σ1 σ) (fun σ3 =>
    Q (some (.int x2)) (sW σ3 σ)))) ∧
   (¬ x2 = (124 : Int32) →
    ((¬ x2 = (125 : Int32) →
      ((x2 = (127 : Int32) →
        Q (some (.int x2)) (sW σ1 σ)) ∧
       (¬ x2 = (127 : Int32) →
        ((x2 = (126 : Int32) →
          Q (some (.int x2)) (sW σ1 σ)) ∧
         (¬ x2 = (126 : Int32) →
          (Dv d 22 [.ref 46, .int (-1 : Int32), .int (σ.1 46 1)] (sW σ1 σ) (fun σ4 =>
          Q (some (.int x2)) (sW σ4 σ)))))))) ∧
     (x2 = (125 : Int32) →
      (Dv d 22 [.ref 46, .int (-2 : Int32), .int (σ.1 46 1)] (sW σ1 σ) (fun σ5 =>
      Q (some (.int x2)) (sW σ5 σ)))))))))) :
  Cl (d + 1) 30 [.ref 46] σ Q := by
  exact Cl.run B_Scan_valueType C_Scan_valueType 10 fk_q30 ok_Scan_valueType rfl h
def B_CodeReader_instruction : fkB := [(0, [(.aload_n 1, 1, []), (.getfield 67, 3, [10, 1, 512, 1]), (.istore_n 3, 1, []), (.aload_n 1, 1, []), (.invokevirtual 89, 3, [24, 0, 1020, 1, 4, 10]), (.istore 4, 2, []), (.aload_n 1, 1, []), (.invokevirtual 21, 3, [20, 0, 997, 1, 4, 10]), (.ifCond .ne 5, 3, [20])]),
  (18, [(.iconst 0, 1, []), (.ireturn, 1, [])]),
  (20, [(.iload 4, 2, []), (.bipush 11, 2, []), (.if_icmp .ne 9, 3, [33])]),
  (27, [(.aload_n 0, 1, []), (.aload_n 2, 1, []), (.invokevirtual 92, 3, [32, 1, 1021, 0, 4, 1]), (.ireturn, 1, [])]),
  (33, [(.iload 4, 2, []), (.iconst 5, 1, []), (.if_icmp .ne 13, 3, [49])]),
  (39, [(.aload_n 0, 1, []), (.aload_n 1, 1, []), (.aload_n 2, 1, []), (.iload_n 3, 1, []), (.invokevirtual 96, 3, [34, 3, 1029, 0, 3, 1]), (.goto 88, 3, [134])]),
  (49, [(.iload 4, 2, []), (.iconst 2, 1, []), (.if_icmp .lt 21, 3, [73])]),
  (55, [(.iload 4, 2, []), (.iconst 4, 1, []), (.if_icmp .gt 15, 3, [73])]),
  (61, [(.aload_n 0, 1, []), (.aload_n 1, 1, []), (.aload_n 2, 1, []), (.iload 4, 2, []), (.iload_n 3, 1, []), (.invokevirtual 99, 3, [35, 4, 1033, 0, 3, 1]), (.goto 64, 3, [134])]),
  (73, [(.iload 4, 2, []), (.invokestatic 103, 3, [36, 1, 1037, 0, 4]), (.ifCond .eq 13, 3, [91])]),
  (81, [(.aload_n 2, 1, []), (.iload 4, 2, []), (.invokevirtual 107, 3, [33, 1, 1025, 1, 4, 2]), (.pop, 1, []), (.goto 46, 3, [134])]),
  (91, [(.iload 4, 2, []), (.invokestatic 111, 3, [37, 1, 1040, 0, 4]), (.ifCond .eq 13, 3, [109])]),
  (99, [(.aload_n 1, 1, []), (.bipush (-2), 2, []), (.iload_n 3, 1, []), (.invokevirtual 76, 3, [22, 2, 1010, 1, 3, 10]), (.goto 28, 3, [134])]),
  (109, [(.iload 4, 2, []), (.bipush 14, 2, []), (.if_icmp .ne 12, 3, [125])]),
  (116, [(.aload_n 0, 1, []), (.aload_n 1, 1, []), (.aload_n 2, 1, []), (.invokevirtual 114, 3, [38, 2, 1043, 0, 3, 1]), (.goto 12, 3, [134])]),
  (125, [(.aload_n 0, 1, []), (.aload_n 1, 1, []), (.aload_n 2, 1, []), (.iload 4, 2, []), (.iload_n 3, 1, []), (.invokevirtual 118, 3, [40, 4, 1051, 0, 3, 1])]),
  (134, [(.iconst 0, 1, []), (.ireturn, 1, [])])]
set_option maxRecDepth 100000 in
theorem ok_CodeReader_instruction : fk_okM 31 B_CodeReader_instruction = true := by decide +kernel
abbrev C_CodeReader_instruction : fkC := [(73, [true, true, true, true, true])]
set_option maxRecDepth 100000 in
set_option maxHeartbeats 4000000 in
theorem S_CodeReader_instruction {d : Nat}  {σ : fkS} {Q : Option Value → fkS → Prop} 
  (h : (Di d 24 [.ref 46] σ (fun x2 σ1 =>
  (Di d 20 [.ref 46] (sW σ1 σ) (fun x4 σ3 =>
  ((¬ x4 = 0 →
    ((¬ x2 = (11 : Int32) →
      ((¬ x2 = (5 : Int32) →
        ((x2 < (2 : Int32) →
          Wq 31 (d + 1) 73 [some (.ref 48), some (.ref 46), some (.ref 36), some (.int (σ.1 46 1)), some (.int x2)] [] (sW σ3 σ) Q) ∧
         (¬ x2 < (2 : Int32) →
          (((4 : Int32) < x2 →
            Wq 31 (d + 1) 73 [some (.ref 48), some (.ref 46), some (.ref 36), some (.int (σ.1 46 1)), some (.int x2)] [] (sW σ3 σ) Q) ∧
           (¬ (4 : Int32) < x2 →
            (Dv d 35 [.ref 48, .ref 46, .ref 36, .int x2, .int (σ.1 46 1)] (sW σ3 σ) (fun σ5 =>
            Q (some (.int (0 : Int32))) (sW σ5 σ)))))))) ∧
       (x2 = (5 : Int32) →
        (Dv d 34 [.ref 48, .ref 46, .ref 36, .int (σ.1 46 1)] (sW σ3 σ) (fun σ6 =>
        Q (some (.int (0 : Int32))) (sW σ6 σ)))))) ∧
     (x2 = (11 : Int32) →
      (Di d 32 [.ref 48, .ref 36] (sW σ3 σ) (fun x8 σ7 =>
      fk_bz x8 (Q (some (.int x8)) (sW σ7 σ))))))) ∧
   (x4 = 0 →
    Q (some (.int (0 : Int32))) (sW σ3 σ)))))))) :
  Cl (d + 1) 31 [.ref 48, .ref 46, .ref 36] σ Q := by
  exact Cl.run B_CodeReader_instruction C_CodeReader_instruction 20 fk_q31 ok_CodeReader_instruction rfl h
set_option maxRecDepth 100000 in
set_option maxHeartbeats 4000000 in
theorem S_CodeReader_instruction_73 {d : Nat} {v3 : Int32} {v4 : Int32} {σ : fkS} {Q : Option Value → fkS → Prop} 
  (h : (Di d 36 [.int v4] σ (fun x2 σ1 =>
  ((x2 = 0 →
    (Di d 37 [.int v4] (sW σ1 σ) (fun x4 σ3 =>
    ((x4 = 0 →
      ((¬ v4 = (14 : Int32) →
        (Dv d 40 [.ref 48, .ref 46, .ref 36, .int v4, .int v3] (sW σ3 σ) (fun σ5 =>
        Q (some (.int (0 : Int32))) (sW σ5 σ)))) ∧
       (v4 = (14 : Int32) →
        (Dv d 38 [.ref 48, .ref 46, .ref 36] (sW σ3 σ) (fun σ6 =>
        Q (some (.int (0 : Int32))) (sW σ6 σ)))))) ∧
     (¬ x4 = 0 →
      (Dv d 22 [.ref 46, .int (-2 : Int32), .int v3] (sW σ3 σ) (fun σ7 =>
      Q (some (.int (0 : Int32))) (sW σ7 σ)))))))) ∧
   (¬ x2 = 0 →
    (Di d 33 [.ref 36, .int v4] (sW σ1 σ) (fun x9 σ8 =>
    Q (some (.int (0 : Int32))) (sW σ8 σ)))))))) :
  Wq 31 (d + 1) 73 [some (.ref 48), some (.ref 46), some (.ref 36), some (.int v3), some (.int v4)] [] σ Q := by
  exact fk_run_sound (B := B_CodeReader_instruction) (C := C_CodeReader_instruction) (n := 20) ok_CodeReader_instruction h
def B_CodeReader_close : fkB := [(0, [(.aload_n 1, 1, []), (.bipush 11, 2, []), (.invokevirtual 107, 3, [33, 1, 1025, 1, 4, 2]), (.istore_n 2, 1, []), (.aload_n 0, 1, []), (.getfield 44, 3, [1, 1, 538, 0]), (.ifCond .ne 5, 3, [16])]),
  (14, [(.iconst 1, 1, []), (.ireturn, 1, [])]),
  (16, [(.aload_n 0, 1, []), (.dup, 1, []), (.getfield 44, 3, [1, 1, 538, 0]), (.iconst 1, 1, []), (.isub, 1, []), (.putfield 44, 3, [1, 1, 538, 0]), (.aload_n 1, 1, []), (.getfield 121, 3, [2, 8, 342, 1]), (.aload_n 0, 1, []), (.getfield 11, 3, [1, 0, 537, 0]), (.aload_n 0, 1, []), (.getfield 44, 3, [1, 1, 538, 0]), (.iaload, 1, []), (.iload_n 2, 1, []), (.iastore, 1, []), (.iconst 0, 1, []), (.ireturn, 1, [])])]
set_option maxRecDepth 100000 in
theorem ok_CodeReader_close : fk_okM 32 B_CodeReader_close = true := by decide +kernel
abbrev C_CodeReader_close : fkC := []
set_option maxRecDepth 100000 in
set_option maxHeartbeats 4000000 in
theorem S_CodeReader_close {d : Nat}  {σ : fkS} {Q : Option Value → fkS → Prop} 
  (h : (Di d 33 [.ref 36, .int (11 : Int32)] σ (fun x2 σ1 =>
  ((¬ ((sW σ1 σ).1 48 1) = 0 →
    (vp_in (((sW σ1 σ).1 48 1) - (1 : Int32)) 20 ∧
    (vp_in ((sW σ1 σ).1 49 ((((sW σ1 σ).1 48 1) - (1 : Int32)).toNatClampNeg)) 4000 ∧
    Q (some (.int (0 : Int32))) (sI (sI (sW σ1 σ) 48 1 (((sW σ1 σ).1 48 1) - (1 : Int32))) 43 (((sW σ1 σ).1 49 ((((sW σ1 σ).1 48 1) - (1 : Int32)).toNatClampNeg)).toNatClampNeg) x2)))) ∧
   (((sW σ1 σ).1 48 1) = 0 →
    Q (some (.int (1 : Int32))) (sW σ1 σ)))))) :
  Cl (d + 1) 32 [.ref 48, .ref 36] σ Q := by
  exact Cl.run B_CodeReader_close C_CodeReader_close 6 fk_q32 ok_CodeReader_close rfl h
def B_CodeRows_add : fkB := [(0, [(.aload_n 0, 1, []), (.getfield 38, 3, [2, 5, 329, 0]), (.sipush 4000, 3, []), (.if_icmp .lt 7, 3, [14])]),
  (10, [(.sipush 3999, 3, []), (.ireturn, 1, [])]),
  (14, [(.aload_n 0, 1, []), (.getfield 25, 3, [2, 6, 333, 0]), (.aload_n 0, 1, []), (.getfield 38, 3, [2, 5, 329, 0]), (.iload_n 1, 1, []), (.iastore, 1, []), (.aload_n 0, 1, []), (.getfield 28, 3, [2, 7, 337, 0]), (.aload_n 0, 1, []), (.getfield 38, 3, [2, 5, 329, 0]), (.lconst 0, 1, []), (.lastore, 1, []), (.aload_n 0, 1, []), (.getfield 32, 3, [2, 8, 341, 0]), (.aload_n 0, 1, []), (.getfield 38, 3, [2, 5, 329, 0]), (.iconst 0, 1, []), (.iastore, 1, []), (.aload_n 0, 1, []), (.dup, 1, []), (.getfield 38, 3, [2, 5, 329, 0]), (.iconst 1, 1, []), (.iadd, 1, []), (.putfield 38, 3, [2, 5, 329, 0]), (.aload_n 0, 1, []), (.getfield 38, 3, [2, 5, 329, 0]), (.iconst 1, 1, []), (.isub, 1, []), (.ireturn, 1, [])])]
set_option maxRecDepth 100000 in
theorem ok_CodeRows_add : fk_okM 33 B_CodeRows_add = true := by decide +kernel
abbrev C_CodeRows_add : fkC := []
set_option maxRecDepth 100000 in
set_option maxHeartbeats 4000000 in
theorem S_CodeRows_add {d : Nat} {a0 : Int32} {σ : fkS} {Q : Option Value → fkS → Prop} 
  (h : (((σ.1 36 5) < (4000 : Int32) →
    (vp_in (σ.1 36 5) 4000 ∧
    (vp_in (σ.1 36 5) 4000 ∧
    (vp_in (σ.1 36 5) 4000 ∧
    Q (some (.int (((σ.1 36 5) + (1 : Int32)) - (1 : Int32)))) (sI (sI (sL (sI σ 41 ((σ.1 36 5).toNatClampNeg) a0) 42 ((σ.1 36 5).toNatClampNeg) (0 : Int64)) 43 ((σ.1 36 5).toNatClampNeg) (0 : Int32)) 36 5 ((σ.1 36 5) + (1 : Int32))))))) ∧
   (¬ (σ.1 36 5) < (4000 : Int32) →
    Q (some (.int (3999 : Int32))) σ))) :
  Cl d 33 [.ref 36, .int a0] σ Q := by
  exact Cl.run B_CodeRows_add C_CodeRows_add 6 fk_q33 ok_CodeRows_add rfl h
def B_CodeReader_otherPart : fkB := [(0, [(.aload_n 0, 1, []), (.getfield 44, 3, [1, 1, 538, 0]), (.ifCond .eq 23, 3, [27])]),
  (7, [(.aload_n 2, 1, []), (.getfield 124, 3, [2, 6, 335, 1]), (.aload_n 0, 1, []), (.getfield 11, 3, [1, 0, 537, 0]), (.aload_n 0, 1, []), (.getfield 44, 3, [1, 1, 538, 0]), (.iconst 1, 1, []), (.isub, 1, []), (.iaload, 1, []), (.iaload, 1, []), (.iconst 4, 1, []), (.if_icmp .eq 10, 3, [34])]),
  (27, [(.aload_n 1, 1, []), (.iconst (-1), 1, []), (.iload_n 3, 1, []), (.invokevirtual 76, 3, [22, 2, 1010, 1, 3, 10]), (.return_, 1, [])]),
  (34, [(.aload_n 2, 1, []), (.iconst 5, 1, []), (.invokevirtual 107, 3, [33, 1, 1025, 1, 4, 2]), (.istore 4, 2, []), (.aload_n 2, 1, []), (.getfield 121, 3, [2, 8, 342, 1]), (.aload_n 0, 1, []), (.getfield 11, 3, [1, 0, 537, 0]), (.aload_n 0, 1, []), (.getfield 44, 3, [1, 1, 538, 0]), (.iconst 1, 1, []), (.isub, 1, []), (.iaload, 1, []), (.iload 4, 2, []), (.iastore, 1, []), (.aload_n 0, 1, []), (.getfield 11, 3, [1, 0, 537, 0]), (.aload_n 0, 1, []), (.getfield 44, 3, [1, 1, 538, 0]), (.iconst 1, 1, []), (.isub, 1, []), (.iload 4, 2, []), (.iastore, 1, []), (.return_, 1, [])])]
set_option maxRecDepth 100000 in
theorem ok_CodeReader_otherPart : fk_okM 34 B_CodeReader_otherPart = true := by decide +kernel
abbrev C_CodeReader_otherPart : fkC := []
set_option maxRecDepth 100000 in
set_option maxHeartbeats 4000000 in
theorem S_CodeReader_otherPart {d : Nat} {a2 : Int32} {σ : fkS} {Q : Option Value → fkS → Prop} 
  (h : (((σ.1 48 1) = 0 →
    (Dv d 22 [.ref 46, .int (-1 : Int32), .int a2] σ (fun σ1 =>
    Q none (sW σ1 σ)))) ∧
   (¬ (σ.1 48 1) = 0 →
    (vp_in ((σ.1 48 1) - (1 : Int32)) 20 ∧
    (vp_in (σ.1 49 (((σ.1 48 1) - (1 : Int32)).toNatClampNeg)) 4000 ∧
    (((σ.1 41 ((σ.1 49 (((σ.1 48 1) - (1 : Int32)).toNatClampNeg)).toNatClampNeg)) = (4 : Int32) →
      (Di d 33 [.ref 36, .int (5 : Int32)] σ (fun x3 σ2 =>
      (vp_in (((sW σ2 σ).1 48 1) - (1 : Int32)) 20 ∧
      (vp_in ((sW σ2 σ).1 49 ((((sW σ2 σ).1 48 1) - (1 : Int32)).toNatClampNeg)) 4000 ∧
      (vp_in (((sW σ2 σ).1 48 1) - (1 : Int32)) 20 ∧
      Q none (sI (sI (sW σ2 σ) 43 (((sW σ2 σ).1 49 ((((sW σ2 σ).1 48 1) - (1 : Int32)).toNatClampNeg)).toNatClampNeg) x3) 49 ((((sW σ2 σ).1 48 1) - (1 : Int32)).toNatClampNeg) x3))))))) ∧
     (¬ (σ.1 41 ((σ.1 49 (((σ.1 48 1) - (1 : Int32)).toNatClampNeg)).toNatClampNeg)) = (4 : Int32) →
      (Dv d 22 [.ref 46, .int (-1 : Int32), .int a2] σ (fun σ4 =>
      Q none (sW σ4 σ)))))))))) :
  Cl (d + 1) 34 [.ref 48, .ref 46, .ref 36, .int a2] σ Q := by
  exact Cl.run B_CodeReader_otherPart C_CodeReader_otherPart 7 fk_q34 ok_CodeReader_otherPart rfl h
def B_CodeReader_block : fkB := [(0, [(.aload_n 0, 1, []), (.getfield 44, 3, [1, 1, 538, 0]), (.bipush 20, 2, []), (.if_icmp .lt 12, 3, [18])]),
  (9, [(.aload_n 1, 1, []), (.bipush (-2), 2, []), (.iload 4, 2, []), (.invokevirtual 76, 3, [22, 2, 1010, 1, 3, 10]), (.return_, 1, [])]),
  (18, [(.aload_n 2, 1, []), (.iload_n 3, 1, []), (.invokevirtual 107, 3, [33, 1, 1025, 1, 4, 2]), (.istore 5, 2, []), (.aload_n 1, 1, []), (.getfield 67, 3, [10, 1, 512, 1]), (.aload_n 1, 1, []), (.getfield 15, 3, [10, 2, 515, 1]), (.if_icmp .ge 30, 3, [63])]),
  (36, [(.aload_n 1, 1, []), (.getfield 127, 3, [10, 0, 509, 1]), (.aload_n 1, 1, []), (.getfield 67, 3, [10, 1, 512, 1]), (.baload, 1, []), (.bipush 64, 2, []), (.if_icmp .ne 16, 3, [63])]),
  (50, [(.aload_n 1, 1, []), (.dup, 1, []), (.getfield 67, 3, [10, 1, 512, 1]), (.iconst 1, 1, []), (.iadd, 1, []), (.putfield 67, 3, [10, 1, 512, 1]), (.goto 15, 3, [75])]),
  (63, [(.aload_n 2, 1, []), (.getfield 130, 3, [2, 7, 338, 1]), (.iload 5, 2, []), (.aload_n 1, 1, []), (.invokevirtual 80, 3, [30, 0, 1011, 1, 4, 10]), (.i2l, 1, []), (.lastore, 1, [])]),
  (75, [(.aload_n 0, 1, []), (.getfield 11, 3, [1, 0, 537, 0]), (.aload_n 0, 1, []), (.getfield 44, 3, [1, 1, 538, 0]), (.iload 5, 2, []), (.iastore, 1, []), (.aload_n 0, 1, []), (.dup, 1, []), (.getfield 44, 3, [1, 1, 538, 0]), (.iconst 1, 1, []), (.iadd, 1, []), (.putfield 44, 3, [1, 1, 538, 0]), (.return_, 1, [])])]
set_option maxRecDepth 100000 in
theorem ok_CodeReader_block : fk_okM 35 B_CodeReader_block = true := by decide +kernel
abbrev C_CodeReader_block : fkC := [(63, [true, true, true, false, false, true])]
set_option maxRecDepth 100000 in
set_option maxHeartbeats 4000000 in
theorem S_CodeReader_block {d : Nat} {a2 : Int32} {a3 : Int32} {σ : fkS} {Q : Option Value → fkS → Prop} (h46_0 : σ.2.2 46 0 = 26)
  (h : (((σ.1 48 1) < (20 : Int32) →
    (Di d 33 [.ref 36, .int a2] σ (fun x2 σ1 =>
    ((((sW σ1 σ).1 46 2) ≤ ((sW σ1 σ).1 46 1) →
      Wq 35 (d + 1) 63 [some (.ref 48), some (.ref 46), some (.ref 36), none, none, some (.int x2)] [] (sW σ1 σ) Q) ∧
     (¬ ((sW σ1 σ).1 46 2) ≤ ((sW σ1 σ).1 46 1) →
      (¬ (26 : Nat) = 0 ∧
      (vp_in ((sW σ1 σ).1 46 1) 4000 ∧
      ((¬ ((sW σ1 σ).1 25 (((sW σ1 σ).1 46 1).toNatClampNeg)) = (64 : Int32) →
        Wq 35 (d + 1) 63 [some (.ref 48), some (.ref 46), some (.ref 36), none, none, some (.int x2)] [] (sW σ1 σ) Q) ∧
       (((sW σ1 σ).1 25 (((sW σ1 σ).1 46 1).toNatClampNeg)) = (64 : Int32) →
        (vp_in ((sW σ1 σ).1 48 1) 20 ∧
        Q none (sI (sI (sI (sW σ1 σ) 46 1 (((sW σ1 σ).1 46 1) + (1 : Int32))) 49 (((sW σ1 σ).1 48 1).toNatClampNeg) x2) 48 1 (((sW σ1 σ).1 48 1) + (1 : Int32))))))))))))) ∧
   (¬ (σ.1 48 1) < (20 : Int32) →
    (Dv d 22 [.ref 46, .int (-2 : Int32), .int a3] σ (fun σ3 =>
    Q none (sW σ3 σ)))))) :
  Cl (d + 1) 35 [.ref 48, .ref 46, .ref 36, .int a2, .int a3] σ Q := by
  rw [← sR_eta h46_0] at h ⊢
  exact Cl.run B_CodeReader_block C_CodeReader_block 10 fk_q35 ok_CodeReader_block rfl h
set_option maxRecDepth 100000 in
set_option maxHeartbeats 4000000 in
theorem S_CodeReader_block_63 {d : Nat} {v5 : Int32} {σ : fkS} {Q : Option Value → fkS → Prop} 
  (h : (Di d 30 [.ref 46] σ (fun x2 σ1 =>
  (vp_in v5 4000 ∧
  (vp_in ((sW σ1 σ).1 48 1) 20 ∧
  Q none (sI (sI (sL (sW σ1 σ) 42 v5.toNatClampNeg x2.toInt64) 49 (((sW σ1 σ).1 48 1).toNatClampNeg) v5) 48 1 (((sW σ1 σ).1 48 1) + (1 : Int32)))))))) :
  Wq 35 (d + 1) 63 [some (.ref 48), some (.ref 46), some (.ref 36), none, none, some (.int v5)] [] σ Q := by
  exact fk_run_sound (B := B_CodeReader_block) (C := C_CodeReader_block) (n := 10) ok_CodeReader_block h
def B_CodeReader_isAlone : fkB := [(0, [(.iload_n 0, 1, []), (.ifCond .eq 72, 3, [73])]),
  (4, [(.iload_n 0, 1, []), (.iconst 1, 1, []), (.if_icmp .eq 67, 3, [73])]),
  (9, [(.iload_n 0, 1, []), (.bipush 15, 2, []), (.if_icmp .eq 61, 3, [73])]),
  (15, [(.iload_n 0, 1, []), (.bipush 26, 2, []), (.if_icmp .eq 55, 3, [73])]),
  (21, [(.iload_n 0, 1, []), (.bipush 27, 2, []), (.if_icmp .eq 49, 3, [73])]),
  (27, [(.iload_n 0, 1, []), (.bipush 69, 2, []), (.if_icmp .lt 9, 3, [39])]),
  (33, [(.iload_n 0, 1, []), (.bipush 90, 2, []), (.if_icmp .le 37, 3, [73])]),
  (39, [(.iload_n 0, 1, []), (.bipush 103, 2, []), (.if_icmp .lt 10, 3, [52])]),
  (45, [(.iload_n 0, 1, []), (.sipush 138, 3, []), (.if_icmp .le 24, 3, [73])]),
  (52, [(.iload_n 0, 1, []), (.sipush 167, 3, []), (.if_icmp .eq 17, 3, [73])]),
  (59, [(.iload_n 0, 1, []), (.sipush 172, 3, []), (.if_icmp .eq 10, 3, [73])]),
  (66, [(.iload_n 0, 1, []), (.sipush 173, 3, []), (.if_icmp .ne 7, 3, [77])]),
  (73, [(.iconst 1, 1, []), (.goto 4, 3, [78])]),
  (77, [(.iconst 0, 1, [])]),
  (78, [(.ireturn, 1, [])])]
set_option maxRecDepth 100000 in
theorem ok_CodeReader_isAlone : fk_okM 36 B_CodeReader_isAlone = true := by decide +kernel
abbrev C_CodeReader_isAlone : fkC := [(39, [true])]
set_option maxRecDepth 100000 in
set_option maxHeartbeats 4000000 in
theorem S_CodeReader_isAlone {d : Nat} {a0 : Int32} {σ : fkS} {Q : Option Value → fkS → Prop} 
  (h : ((a0 = 0 →
    Q (some (.int (1 : Int32))) σ) ∧
   (¬ a0 = 0 →
    ((a0 = (1 : Int32) →
      Q (some (.int (1 : Int32))) σ) ∧
     (¬ a0 = (1 : Int32) →
      ((a0 = (15 : Int32) →
        Q (some (.int (1 : Int32))) σ) ∧
       (¬ a0 = (15 : Int32) →
        ((a0 = (26 : Int32) →
          Q (some (.int (1 : Int32))) σ) ∧
         (¬ a0 = (26 : Int32) →
          ((a0 = (27 : Int32) →
            Q (some (.int (1 : Int32))) σ) ∧
           (¬ a0 = (27 : Int32) →
            ((a0 < (69 : Int32) →
              Wq 36 d 39 [some (.int a0)] [] σ Q) ∧
             (¬ a0 < (69 : Int32) →
              ((a0 ≤ (90 : Int32) →
                Q (some (.int (1 : Int32))) σ) ∧
               (¬ a0 ≤ (90 : Int32) →
                Wq 36 d 39 [some (.int a0)] [] σ Q))))))))))))))) :
  Cl d 36 [.int a0] σ Q := by
  exact Cl.run B_CodeReader_isAlone C_CodeReader_isAlone 18 fk_q36 ok_CodeReader_isAlone rfl h
set_option maxRecDepth 100000 in
set_option maxHeartbeats 4000000 in
theorem S_CodeReader_isAlone_39 {d : Nat} {v0 : Int32} {σ : fkS} {Q : Option Value → fkS → Prop} 
  (h : ((v0 < (103 : Int32) →
    ((v0 = (167 : Int32) →
      Q (some (.int (1 : Int32))) σ) ∧
     (¬ v0 = (167 : Int32) →
      ((v0 = (172 : Int32) →
        Q (some (.int (1 : Int32))) σ) ∧
       (¬ v0 = (172 : Int32) →
        ((¬ v0 = (173 : Int32) →
          Q (some (.int (0 : Int32))) σ) ∧
         (v0 = (173 : Int32) →
          Q (some (.int (1 : Int32))) σ))))))) ∧
   (¬ v0 < (103 : Int32) →
    ((v0 ≤ (138 : Int32) →
      Q (some (.int (1 : Int32))) σ) ∧
     (¬ v0 ≤ (138 : Int32) →
      ((v0 = (167 : Int32) →
        Q (some (.int (1 : Int32))) σ) ∧
       (¬ v0 = (167 : Int32) →
        ((v0 = (172 : Int32) →
          Q (some (.int (1 : Int32))) σ) ∧
         (¬ v0 = (172 : Int32) →
          ((¬ v0 = (173 : Int32) →
            Q (some (.int (0 : Int32))) σ) ∧
           (v0 = (173 : Int32) →
            Q (some (.int (1 : Int32))) σ))))))))))) :
  Wq 36 d 39 [some (.int v0)] [] σ Q := by
  exact fk_run_sound (B := B_CodeReader_isAlone) (C := C_CodeReader_isAlone) (n := 18) ok_CodeReader_isAlone h
def B_CodeReader_isRefused : fkB := [(0, [(.iload_n 0, 1, []), (.bipush 42, 2, []), (.if_icmp .eq 87, 3, [90])]),
  (6, [(.iload_n 0, 1, []), (.bipush 43, 2, []), (.if_icmp .eq 81, 3, [90])]),
  (12, [(.iload_n 0, 1, []), (.bipush 56, 2, []), (.if_icmp .eq 75, 3, [90])]),
  (18, [(.iload_n 0, 1, []), (.bipush 57, 2, []), (.if_icmp .eq 69, 3, [90])]),
  (24, [(.iload_n 0, 1, []), (.bipush 67, 2, []), (.if_icmp .eq 63, 3, [90])]),
  (30, [(.iload_n 0, 1, []), (.bipush 68, 2, []), (.if_icmp .eq 57, 3, [90])]),
  (36, [(.iload_n 0, 1, []), (.bipush 91, 2, []), (.if_icmp .lt 9, 3, [48])]),
  (42, [(.iload_n 0, 1, []), (.bipush 102, 2, []), (.if_icmp .le 45, 3, [90])]),
  (48, [(.iload_n 0, 1, []), (.sipush 139, 3, []), (.if_icmp .lt 10, 3, [62])]),
  (55, [(.iload_n 0, 1, []), (.sipush 166, 3, []), (.if_icmp .le 31, 3, [90])]),
  (62, [(.iload_n 0, 1, []), (.sipush 168, 3, []), (.if_icmp .lt 10, 3, [76])]),
  (69, [(.iload_n 0, 1, []), (.sipush 171, 3, []), (.if_icmp .le 17, 3, [90])]),
  (76, [(.iload_n 0, 1, []), (.sipush 174, 3, []), (.if_icmp .lt 14, 3, [94])]),
  (83, [(.iload_n 0, 1, []), (.sipush 191, 3, []), (.if_icmp .gt 7, 3, [94])]),
  (90, [(.iconst 1, 1, []), (.goto 4, 3, [95])]),
  (94, [(.iconst 0, 1, [])]),
  (95, [(.ireturn, 1, [])])]
set_option maxRecDepth 100000 in
theorem ok_CodeReader_isRefused : fk_okM 37 B_CodeReader_isRefused = true := by decide +kernel
abbrev C_CodeReader_isRefused : fkC := [(62, [true])]
set_option maxRecDepth 100000 in
set_option maxHeartbeats 4000000 in
theorem S_CodeReader_isRefused {d : Nat} {a0 : Int32} {σ : fkS} {Q : Option Value → fkS → Prop} 
  (h : ((a0 = (42 : Int32) →
    Q (some (.int (1 : Int32))) σ) ∧
   (¬ a0 = (42 : Int32) →
    ((a0 = (43 : Int32) →
      Q (some (.int (1 : Int32))) σ) ∧
     (¬ a0 = (43 : Int32) →
      ((a0 = (56 : Int32) →
        Q (some (.int (1 : Int32))) σ) ∧
       (¬ a0 = (56 : Int32) →
        ((a0 = (57 : Int32) →
          Q (some (.int (1 : Int32))) σ) ∧
         (¬ a0 = (57 : Int32) →
          ((a0 = (67 : Int32) →
            Q (some (.int (1 : Int32))) σ) ∧
           (¬ a0 = (67 : Int32) →
            ((a0 = (68 : Int32) →
              Q (some (.int (1 : Int32))) σ) ∧
             (¬ a0 = (68 : Int32) →
              ((a0 < (91 : Int32) →
                ((a0 < (139 : Int32) →
                  Wq 37 d 62 [some (.int a0)] [] σ Q) ∧
                 (¬ a0 < (139 : Int32) →
                  ((a0 ≤ (166 : Int32) →
                    Q (some (.int (1 : Int32))) σ) ∧
                   (¬ a0 ≤ (166 : Int32) →
                    Wq 37 d 62 [some (.int a0)] [] σ Q))))) ∧
               (¬ a0 < (91 : Int32) →
                ((a0 ≤ (102 : Int32) →
                  Q (some (.int (1 : Int32))) σ) ∧
                 (¬ a0 ≤ (102 : Int32) →
                  ((a0 < (139 : Int32) →
                    Wq 37 d 62 [some (.int a0)] [] σ Q) ∧
                   (¬ a0 < (139 : Int32) →
                    ((a0 ≤ (166 : Int32) →
                      Q (some (.int (1 : Int32))) σ) ∧
                     (¬ a0 ≤ (166 : Int32) →
                      Wq 37 d 62 [some (.int a0)] [] σ Q))))))))))))))))))))) :
  Cl d 37 [.int a0] σ Q := by
  exact Cl.run B_CodeReader_isRefused C_CodeReader_isRefused 20 fk_q37 ok_CodeReader_isRefused rfl h
set_option maxRecDepth 100000 in
set_option maxHeartbeats 4000000 in
theorem S_CodeReader_isRefused_62 {d : Nat} {v0 : Int32} {σ : fkS} {Q : Option Value → fkS → Prop} 
  (h : ((v0 < (168 : Int32) →
    ((v0 < (174 : Int32) →
      Q (some (.int (0 : Int32))) σ) ∧
     (¬ v0 < (174 : Int32) →
      (((191 : Int32) < v0 →
        Q (some (.int (0 : Int32))) σ) ∧
       (¬ (191 : Int32) < v0 →
        Q (some (.int (1 : Int32))) σ))))) ∧
   (¬ v0 < (168 : Int32) →
    ((v0 ≤ (171 : Int32) →
      Q (some (.int (1 : Int32))) σ) ∧
     (¬ v0 ≤ (171 : Int32) →
      ((v0 < (174 : Int32) →
        Q (some (.int (0 : Int32))) σ) ∧
       (¬ v0 < (174 : Int32) →
        (((191 : Int32) < v0 →
          Q (some (.int (0 : Int32))) σ) ∧
         (¬ (191 : Int32) < v0 →
          Q (some (.int (1 : Int32))) σ))))))))) :
  Wq 37 d 62 [some (.int v0)] [] σ Q := by
  exact fk_run_sound (B := B_CodeReader_isRefused) (C := C_CodeReader_isRefused) (n := 20) ok_CodeReader_isRefused h
def B_CodeReader_branchTable : fkB := [(0, [(.aload_n 2, 1, []), (.bipush 14, 2, []), (.invokevirtual 107, 3, [33, 1, 1025, 1, 4, 2]), (.istore_n 3, 1, []), (.aload_n 2, 1, []), (.getfield 130, 3, [2, 7, 338, 1]), (.iload_n 3, 1, []), (.aload_n 2, 1, []), (.getfield 134, 3, [2, 9, 347, 1]), (.i2l, 1, []), (.lastore, 1, []), (.aload_n 1, 1, []), (.invokevirtual 25, 3, [28, 0, 998, 1, 4, 10]), (.istore 4, 2, []), (.aload_n 2, 1, []), (.getfield 121, 3, [2, 8, 342, 1]), (.iload_n 3, 1, []), (.iload 4, 2, []), (.iastore, 1, []), (.iconst 0, 1, []), (.istore 5, 2, [])]),
  (35, [(.iload 5, 2, []), (.iload 4, 2, []), (.if_icmp .gt 24, 3, [63])]),
  (42, [(.aload_n 1, 1, []), (.invokevirtual 21, 3, [20, 0, 997, 1, 4, 10]), (.ifCond .eq 17, 3, [63])]),
  (49, [(.aload_n 2, 1, []), (.aload_n 1, 1, []), (.invokevirtual 70, 3, [26, 0, 1008, 1, 5, 10]), (.invokevirtual 137, 3, [39, 1, 1047, 1, 3, 2]), (.iinc 5 1, 3, []), (.goto (-25), 3, [35])]),
  (63, [(.return_, 1, [])])]
set_option maxRecDepth 100000 in
theorem ok_CodeReader_branchTable : fk_okM 38 B_CodeReader_branchTable = true := by decide +kernel
abbrev C_CodeReader_branchTable : fkC := [(35, [false, true, true, false, true, true])]
set_option maxRecDepth 100000 in
set_option maxHeartbeats 4000000 in
theorem S_CodeReader_branchTable {d : Nat}  {σ : fkS} {Q : Option Value → fkS → Prop} 
  (h : (Di d 33 [.ref 36, .int (14 : Int32)] σ (fun x2 σ1 =>
  (vp_in x2 4000 ∧
  (Di d 28 [.ref 46] (sL (sW σ1 σ) 42 x2.toNatClampNeg (((sW σ1 σ).1 36 9).toInt64)) (fun x4 σ3 =>
  (vp_in x2 4000 ∧
  Wq 38 (d + 1) 35 [none, some (.ref 46), some (.ref 36), none, some (.int x4), some (.int (0 : Int32))] [] (sI (sW σ3 σ) 43 x2.toNatClampNeg x4) Q))))))) :
  Cl (d + 1) 38 [.ref 48, .ref 46, .ref 36] σ Q := by
  exact Cl.run B_CodeReader_branchTable C_CodeReader_branchTable 8 fk_q38 ok_CodeReader_branchTable rfl h
set_option maxRecDepth 100000 in
set_option maxHeartbeats 4000000 in
theorem S_CodeReader_branchTable_35 {d : Nat} {v4 : Int32} {v5 : Int32} {σ : fkS} {Q : Option Value → fkS → Prop} 
  (h : ((v4 < v5 →
    Q none σ) ∧
   (¬ v4 < v5 →
    (Di d 20 [.ref 46] σ (fun x2 σ1 =>
    ((x2 = 0 →
      Q none (sW σ1 σ)) ∧
     (¬ x2 = 0 →
      (Dj d 26 [.ref 46] (sW σ1 σ) (fun x4 σ3 =>
      (Dv d 39 [.ref 36, .long x4] (sW σ3 σ) (fun σ5 =>
      Wq 38 (d + 1) 35 [none, some (.ref 46), some (.ref 36), none, some (.int v4), some (.int (v5 + (1 : Int32)))] [] (sW σ5 σ) Q))))))))))) :
  Wq 38 (d + 1) 35 [none, some (.ref 46), some (.ref 36), none, some (.int v4), some (.int v5)] [] σ Q := by
  exact fk_run_sound (B := B_CodeReader_branchTable) (C := C_CodeReader_branchTable) (n := 8) ok_CodeReader_branchTable h
def B_CodeRows_addLabel : fkB := [(0, [(.aload_n 0, 1, []), (.getfield 42, 3, [2, 9, 346, 0]), (.sipush 4000, 3, []), (.if_icmp .ge 26, 3, [33])]),
  (10, [(.aload_n 0, 1, []), (.getfield 35, 3, [2, 10, 348, 0]), (.iconst 3, 1, []), (.aload_n 0, 1, []), (.getfield 42, 3, [2, 9, 346, 0]), (.imul, 1, []), (.lload_n 1, 1, []), (.l2i, 1, []), (.iastore, 1, []), (.aload_n 0, 1, []), (.dup, 1, []), (.getfield 42, 3, [2, 9, 346, 0]), (.iconst 1, 1, []), (.iadd, 1, []), (.putfield 42, 3, [2, 9, 346, 0])]),
  (33, [(.return_, 1, [])])]
set_option maxRecDepth 100000 in
theorem ok_CodeRows_addLabel : fk_okM 39 B_CodeRows_addLabel = true := by decide +kernel
abbrev C_CodeRows_addLabel : fkC := []
set_option maxRecDepth 100000 in
set_option maxHeartbeats 4000000 in
theorem S_CodeRows_addLabel {d : Nat} {a0 : Int64} {σ : fkS} {Q : Option Value → fkS → Prop} 
  (h : (((4000 : Int32) ≤ (σ.1 36 9) →
    Q none σ) ∧
   (¬ (4000 : Int32) ≤ (σ.1 36 9) →
    (vp_in ((3 : Int32) * (σ.1 36 9)) 12000 ∧
    Q none (sI (sI σ 44 (((3 : Int32) * (σ.1 36 9)).toNatClampNeg) a0.toInt32) 36 9 ((σ.1 36 9) + (1 : Int32))))))) :
  Cl d 39 [.ref 36, .long a0] σ Q := by
  exact Cl.run B_CodeRows_addLabel C_CodeRows_addLabel 6 fk_q39 ok_CodeRows_addLabel rfl h
def B_CodeReader_withOperands : fkB := [(0, [(.aload_n 2, 1, []), (.iload_n 3, 1, []), (.invokevirtual 107, 3, [33, 1, 1025, 1, 4, 2]), (.istore 5, 2, []), (.iload_n 3, 1, []), (.bipush 12, 2, []), (.if_icmp .eq 9, 3, [19])]),
  (13, [(.iload_n 3, 1, []), (.bipush 13, 2, []), (.if_icmp .ne 26, 3, [42])]),
  (19, [(.aload_n 2, 1, []), (.getfield 130, 3, [2, 7, 338, 1]), (.iload 5, 2, []), (.aload_n 2, 1, []), (.getfield 134, 3, [2, 9, 347, 1]), (.i2l, 1, []), (.lastore, 1, []), (.aload_n 2, 1, []), (.aload_n 1, 1, []), (.invokevirtual 70, 3, [26, 0, 1008, 1, 5, 10]), (.invokevirtual 137, 3, [39, 1, 1047, 1, 3, 2]), (.goto 174, 3, [213])]),
  (42, [(.iload_n 3, 1, []), (.invokestatic 141, 3, [41, 1, 1055, 0, 4]), (.ifCond .eq 19, 3, [65])]),
  (49, [(.aload_n 2, 1, []), (.getfield 130, 3, [2, 7, 338, 1]), (.iload 5, 2, []), (.aload_n 1, 1, []), (.invokevirtual 70, 3, [26, 0, 1008, 1, 5, 10]), (.l2i, 1, []), (.i2l, 1, []), (.lastore, 1, []), (.goto 151, 3, [213])]),
  (65, [(.iload_n 3, 1, []), (.bipush 17, 2, []), (.if_icmp .ne 24, 3, [92])]),
  (71, [(.aload_n 2, 1, []), (.getfield 130, 3, [2, 7, 338, 1]), (.iload 5, 2, []), (.aload_n 1, 1, []), (.invokevirtual 70, 3, [26, 0, 1008, 1, 5, 10]), (.l2i, 1, []), (.i2l, 1, []), (.lastore, 1, []), (.aload_n 0, 1, []), (.aload_n 1, 1, []), (.invokevirtual 144, 3, [42, 1, 1058, 0, 3, 1]), (.goto 124, 3, [213])]),
  (92, [(.iload_n 3, 1, []), (.bipush 63, 2, []), (.if_icmp .eq 9, 3, [104])]),
  (98, [(.iload_n 3, 1, []), (.bipush 64, 2, []), (.if_icmp .ne 11, 3, [112])]),
  (104, [(.aload_n 0, 1, []), (.aload_n 1, 1, []), (.invokevirtual 144, 3, [42, 1, 1058, 0, 3, 1]), (.goto 104, 3, [213])]),
  (112, [(.iload_n 3, 1, []), (.bipush 65, 2, []), (.if_icmp .eq 9, 3, [124])]),
  (118, [(.iload_n 3, 1, []), (.bipush 66, 2, []), (.if_icmp .ne 30, 3, [151])]),
  (124, [(.aload_n 2, 1, []), (.getfield 130, 3, [2, 7, 338, 1]), (.iload 5, 2, []), (.aload_n 1, 1, []), (.iload_n 3, 1, []), (.bipush 65, 2, []), (.if_icmp .ne 8, 3, [142])]),
  (137, [(.bipush 32, 2, []), (.goto 5, 3, [144])]),
  (142, [(.bipush 64, 2, [])]),
  (144, [(.invokevirtual 148, 3, [43, 1, 1063, 1, 5, 10]), (.lastore, 1, []), (.goto 65, 3, [213])]),
  (151, [(.iload_n 3, 1, []), (.bipush 40, 2, []), (.if_icmp .lt 52, 3, [206])]),
  (157, [(.iload_n 3, 1, []), (.bipush 62, 2, []), (.if_icmp .gt 46, 3, [206])]),
  (163, [(.aload_n 2, 1, []), (.getfield 121, 3, [2, 8, 342, 1]), (.iload 5, 2, []), (.aload_n 1, 1, []), (.invokevirtual 70, 3, [26, 0, 1008, 1, 5, 10]), (.ldc2_w 152, 3, [99, 1068]), (.invokestatic 154, 3, [1003, 0, 1069]), (.l2i, 1, []), (.iastore, 1, []), (.aload_n 2, 1, []), (.getfield 130, 3, [2, 7, 338, 1]), (.iload 5, 2, []), (.aload_n 1, 1, []), (.invokevirtual 21, 3, [20, 0, 997, 1, 4, 10]), (.ifCond .eq 10, 3, [201])]),
  (194, [(.aload_n 1, 1, []), (.invokevirtual 70, 3, [26, 0, 1008, 1, 5, 10]), (.goto 4, 3, [202])]),
  (201, [(.lconst 0, 1, [])]),
  (202, [(.lastore, 1, []), (.goto 10, 3, [213])]),
  (206, [(.aload_n 1, 1, []), (.iconst (-1), 1, []), (.iload 4, 2, []), (.invokevirtual 76, 3, [22, 2, 1010, 1, 3, 10])]),
  (213, [(.return_, 1, [])])]
set_option maxRecDepth 100000 in
theorem ok_CodeReader_withOperands : fk_okM 40 B_CodeReader_withOperands = true := by decide +kernel
abbrev C_CodeReader_withOperands : fkC := [(124, [false, true, true, true, false, true])]
set_option maxRecDepth 100000 in
set_option maxHeartbeats 4000000 in
theorem S_CodeReader_withOperands {d : Nat} {a2 : Int32} {a3 : Int32} {σ : fkS} {Q : Option Value → fkS → Prop} 
  (h : (Di d 33 [.ref 36, .int a2] σ (fun x2 σ1 =>
  ((a2 = (12 : Int32) →
    (vp_in x2 4000 ∧
    (Dj d 26 [.ref 46] (sL (sW σ1 σ) 42 x2.toNatClampNeg (((sW σ1 σ).1 36 9).toInt64)) (fun x4 σ3 =>
    (Dv d 39 [.ref 36, .long x4] (sW σ3 σ) (fun σ5 =>
    Q none (sW σ5 σ))))))) ∧
   (¬ a2 = (12 : Int32) →
    ((¬ a2 = (13 : Int32) →
      (Di d 41 [.int a2] (sW σ1 σ) (fun x7 σ6 =>
      ((x7 = 0 →
        ((¬ a2 = (17 : Int32) →
          ((a2 = (63 : Int32) →
            (Dv d 42 [.ref 48, .ref 46] (sW σ6 σ) (fun σ8 =>
            Q none (sW σ8 σ)))) ∧
           (¬ a2 = (63 : Int32) →
            ((¬ a2 = (64 : Int32) →
              ((a2 = (65 : Int32) →
                Wq 40 (d + 1) 124 [none, some (.ref 46), some (.ref 36), some (.int a2), none, some (.int x2)] [] (sW σ6 σ) Q) ∧
               (¬ a2 = (65 : Int32) →
                ((¬ a2 = (66 : Int32) →
                  ((a2 < (40 : Int32) →
                    (Dv d 22 [.ref 46, .int (-1 : Int32), .int a3] (sW σ6 σ) (fun σ9 =>
                    Q none (sW σ9 σ)))) ∧
                   (¬ a2 < (40 : Int32) →
                    (((62 : Int32) < a2 →
                      (Dv d 22 [.ref 46, .int (-1 : Int32), .int a3] (sW σ6 σ) (fun σ10 =>
                      Q none (sW σ10 σ)))) ∧
                     (¬ (62 : Int32) < a2 →
                      (Dj d 26 [.ref 46] (sW σ6 σ) (fun x12 σ11 =>
                      (vp_in x2 4000 ∧
                      (Di d 20 [.ref 46] (sI (sW σ11 σ) 43 x2.toNatClampNeg ((if (99 : Int64) < x12 then (99 : Int64) else x12).toInt32)) (fun x14 σ13 =>
                      ((x14 = 0 →
                        (vp_in x2 4000 ∧
                        Q none (sL (sW σ13 σ) 42 x2.toNatClampNeg (0 : Int64)))) ∧
                       (¬ x14 = 0 →
                        (Dj d 26 [.ref 46] (sW σ13 σ) (fun x16 σ15 =>
                        (vp_in x2 4000 ∧
                        Q none (sL (sW σ15 σ) 42 x2.toNatClampNeg x16)))))))))))))))) ∧
                 (a2 = (66 : Int32) →
                  Wq 40 (d + 1) 124 [none, some (.ref 46), some (.ref 36), some (.int a2), none, some (.int x2)] [] (sW σ6 σ) Q))))) ∧
             (a2 = (64 : Int32) →
              (Dv d 42 [.ref 48, .ref 46] (sW σ6 σ) (fun σ17 =>
              Q none (sW σ17 σ)))))))) ∧
         (a2 = (17 : Int32) →
          (Dj d 26 [.ref 46] (sW σ6 σ) (fun x19 σ18 =>
          (vp_in x2 4000 ∧
          (Dv d 42 [.ref 48, .ref 46] (sL (sW σ18 σ) 42 x2.toNatClampNeg x19.toInt32.toInt64) (fun σ20 =>
          Q none (sW σ20 σ))))))))) ∧
       (¬ x7 = 0 →
        (Dj d 26 [.ref 46] (sW σ6 σ) (fun x22 σ21 =>
        (vp_in x2 4000 ∧
        Q none (sL (sW σ21 σ) 42 x2.toNatClampNeg x22.toInt32.toInt64))))))))) ∧
     (a2 = (13 : Int32) →
      (vp_in x2 4000 ∧
      (Dj d 26 [.ref 46] (sL (sW σ1 σ) 42 x2.toNatClampNeg (((sW σ1 σ).1 36 9).toInt64)) (fun x24 σ23 =>
      (Dv d 39 [.ref 36, .long x24] (sW σ23 σ) (fun σ25 =>
      Q none (sW σ25 σ))))))))))))) :
  Cl (d + 1) 40 [.ref 48, .ref 46, .ref 36, .int a2, .int a3] σ Q := by
  exact Cl.run B_CodeReader_withOperands C_CodeReader_withOperands 27 fk_q40 ok_CodeReader_withOperands rfl h
set_option maxRecDepth 100000 in
set_option maxHeartbeats 4000000 in
theorem S_CodeReader_withOperands_124 {d : Nat} {v3 : Int32} {v5 : Int32} {σ : fkS} {Q : Option Value → fkS → Prop} 
  (h : ((¬ v3 = (65 : Int32) →
    (Dj d 43 [.ref 46, .int (64 : Int32)] σ (fun x2 σ1 =>
    (vp_in v5 4000 ∧
    Q none (sL (sW σ1 σ) 42 v5.toNatClampNeg x2))))) ∧
   (v3 = (65 : Int32) →
    (Dj d 43 [.ref 46, .int (32 : Int32)] σ (fun x4 σ3 =>
    (vp_in v5 4000 ∧
    Q none (sL (sW σ3 σ) 42 v5.toNatClampNeg x4))))))) :
  Wq 40 (d + 1) 124 [none, some (.ref 46), some (.ref 36), some (.int v3), none, some (.int v5)] [] σ Q := by
  exact fk_run_sound (B := B_CodeReader_withOperands) (C := C_CodeReader_withOperands) (n := 27) ok_CodeReader_withOperands h
def B_CodeReader_hasNumber : fkB := [(0, [(.iload_n 0, 1, []), (.bipush 16, 2, []), (.if_icmp .eq 15, 3, [18])]),
  (6, [(.iload_n 0, 1, []), (.bipush 32, 2, []), (.if_icmp .lt 13, 3, [22])]),
  (12, [(.iload_n 0, 1, []), (.bipush 36, 2, []), (.if_icmp .gt 7, 3, [22])]),
  (18, [(.iconst 1, 1, []), (.goto 4, 3, [23])]),
  (22, [(.iconst 0, 1, [])]),
  (23, [(.ireturn, 1, [])])]
set_option maxRecDepth 100000 in
theorem ok_CodeReader_hasNumber : fk_okM 41 B_CodeReader_hasNumber = true := by decide +kernel
abbrev C_CodeReader_hasNumber : fkC := []
set_option maxRecDepth 100000 in
set_option maxHeartbeats 4000000 in
theorem S_CodeReader_hasNumber {d : Nat} {a0 : Int32} {σ : fkS} {Q : Option Value → fkS → Prop} 
  (h : ((a0 = (16 : Int32) →
    Q (some (.int (1 : Int32))) σ) ∧
   (¬ a0 = (16 : Int32) →
    ((a0 < (32 : Int32) →
      Q (some (.int (0 : Int32))) σ) ∧
     (¬ a0 < (32 : Int32) →
      (((36 : Int32) < a0 →
        Q (some (.int (0 : Int32))) σ) ∧
       (¬ (36 : Int32) < a0 →
        Q (some (.int (1 : Int32))) σ))))))) :
  Cl d 41 [.int a0] σ Q := by
  exact Cl.run B_CodeReader_hasNumber C_CodeReader_hasNumber 9 fk_q41 ok_CodeReader_hasNumber rfl h
def B_CodeReader_zero : fkB := [(0, [(.aload_n 1, 1, []), (.invokevirtual 21, 3, [20, 0, 997, 1, 4, 10]), (.ifCond .eq 8, 3, [12])]),
  (7, [(.aload_n 1, 1, []), (.iconst 0, 1, []), (.invokevirtual 158, 3, [21, 1, 1062, 1, 3, 10])]),
  (12, [(.return_, 1, [])])]
set_option maxRecDepth 100000 in
theorem ok_CodeReader_zero : fk_okM 42 B_CodeReader_zero = true := by decide +kernel
abbrev C_CodeReader_zero : fkC := []
set_option maxRecDepth 100000 in
set_option maxHeartbeats 4000000 in
theorem S_CodeReader_zero {d : Nat}  {σ : fkS} {Q : Option Value → fkS → Prop} 
  (h : (Di d 20 [.ref 46] σ (fun x2 σ1 =>
  ((x2 = 0 →
    Q none (sW σ1 σ)) ∧
   (¬ x2 = 0 →
    (Dv d 21 [.ref 46, .int (0 : Int32)] (sW σ1 σ) (fun σ3 =>
    Q none (sW σ3 σ)))))))) :
  Cl (d + 1) 42 [.ref 48, .ref 46] σ Q := by
  exact Cl.run B_CodeReader_zero C_CodeReader_zero 6 fk_q42 ok_CodeReader_zero rfl h
def B_Scan_signed : fkB := [(0, [(.aload_n 0, 1, []), (.getfield 15, 3, [10, 1, 510, 0]), (.istore_n 2, 1, []), (.iload_n 1, 1, []), (.bipush 32, 2, []), (.if_icmp .ne 7, 3, [15])]),
  (11, [(.iconst 5, 1, []), (.goto 5, 3, [17])]),
  (15, [(.bipush 10, 2, [])]),
  (17, [(.istore_n 3, 1, []), (.iload_n 1, 1, []), (.bipush 32, 2, []), (.if_icmp .ne 8, 3, [29])]),
  (24, [(.bipush 120, 2, []), (.goto 5, 3, [31])]),
  (29, [(.bipush 127, 2, [])]),
  (31, [(.istore 4, 2, []), (.lconst 0, 1, []), (.lstore 5, 2, []), (.iconst 0, 1, []), (.istore 7, 2, [])]),
  (39, [(.iload 7, 2, []), (.iload_n 3, 1, []), (.if_icmp .ge 162, 3, [204])]),
  (45, [(.aload_n 0, 1, []), (.getfield 15, 3, [10, 1, 510, 0]), (.aload_n 0, 1, []), (.getfield 19, 3, [10, 2, 513, 0]), (.if_icmp .ge 151, 3, [204])]),
  (56, [(.aload_n 0, 1, []), (.getfield 9, 3, [10, 0, 508, 0]), (.aload_n 0, 1, []), (.getfield 15, 3, [10, 1, 510, 0]), (.baload, 1, []), (.sipush 255, 3, []), (.iand, 1, []), (.istore 8, 2, []), (.aload_n 0, 1, []), (.dup, 1, []), (.getfield 15, 3, [10, 1, 510, 0]), (.iconst 1, 1, []), (.iadd, 1, []), (.putfield 15, 3, [10, 1, 510, 0]), (.iload 7, 2, []), (.iload_n 3, 1, []), (.iconst 1, 1, []), (.isub, 1, []), (.if_icmp .ne 33, 3, [119])]),
  (89, [(.iload 8, 2, []), (.sipush 128, 3, []), (.iand, 1, []), (.ifCond .ne 24, 3, [119])]),
  (98, [(.iload 8, 2, []), (.iload 4, 2, []), (.iand, 1, []), (.ifCond .eq 16, 3, [119])]),
  (106, [(.iload 8, 2, []), (.iload 4, 2, []), (.iand, 1, []), (.iload 4, 2, []), (.if_icmp .eq 6, 3, [119])]),
  (116, [(.goto 88, 3, [204])]),
  (119, [(.lload 5, 2, []), (.iload 8, 2, []), (.bipush 127, 2, []), (.iand, 1, []), (.i2l, 1, []), (.bipush 7, 2, []), (.iload 7, 2, []), (.imul, 1, []), (.lshl, 1, []), (.lor, 1, []), (.lstore 5, 2, []), (.iload 8, 2, []), (.sipush 128, 3, []), (.if_icmp .ge 57, 3, [198])]),
  (144, [(.iload 8, 2, []), (.bipush 64, 2, []), (.iand, 1, []), (.ifCond .eq 20, 3, [169])]),
  (152, [(.bipush 7, 2, []), (.iload 7, 2, []), (.imul, 1, []), (.bipush 7, 2, []), (.iadd, 1, []), (.bipush 64, 2, []), (.if_icmp .ge 7, 3, [169])]),
  (165, [(.iconst 1, 1, []), (.goto 4, 3, [170])]),
  (169, [(.iconst 0, 1, [])]),
  (170, [(.istore 9, 2, []), (.iload 9, 2, []), (.ifCond .eq 21, 3, [195])]),
  (177, [(.lload 5, 2, []), (.ldc2_w 38, 3, [18446744073709551615, 1067]), (.bipush 7, 2, []), (.iload 7, 2, []), (.imul, 1, []), (.bipush 7, 2, []), (.iadd, 1, []), (.lshl, 1, []), (.lor, 1, []), (.goto 5, 3, [197])]),
  (195, [(.lload 5, 2, [])]),
  (197, [(.lreturn, 1, [])]),
  (198, [(.iinc 7 1, 3, []), (.goto (-162), 3, [39])]),
  (204, [(.aload_n 0, 1, []), (.iconst (-1), 1, []), (.iload_n 2, 1, []), (.invokevirtual 34, 3, [22, 2, 972, 0, 3, 10]), (.lconst 0, 1, []), (.lreturn, 1, [])])]
set_option maxRecDepth 100000 in
theorem ok_Scan_signed : fk_okM 43 B_Scan_signed = true := by decide +kernel
abbrev C_Scan_signed : fkC := [(39, [true, false, true, true, true, true, false, true, false, false]), (119, [true, false, true, true, true, true, false, true, true, false]), (170, [false, false, false, false, false, true, false, true, false, false])]
set_option maxRecDepth 100000 in
set_option maxHeartbeats 4000000 in
theorem S_Scan_signed {d : Nat} {a0 : Int32} {σ : fkS} {Q : Option Value → fkS → Prop} 
  (h : ((¬ a0 = (32 : Int32) →
    ((¬ a0 = (32 : Int32) →
      Wq 43 (d + 1) 39 [some (.ref 46), none, some (.int (σ.1 46 1)), some (.int (10 : Int32)), some (.int (127 : Int32)), some (.long (0 : Int64)), none, some (.int (0 : Int32)), none, none] [] σ Q) ∧
     (a0 = (32 : Int32) →
      Wq 43 (d + 1) 39 [some (.ref 46), none, some (.int (σ.1 46 1)), some (.int (10 : Int32)), some (.int (120 : Int32)), some (.long (0 : Int64)), none, some (.int (0 : Int32)), none, none] [] σ Q))) ∧
   (a0 = (32 : Int32) →
    ((¬ a0 = (32 : Int32) →
      Wq 43 (d + 1) 39 [some (.ref 46), none, some (.int (σ.1 46 1)), some (.int (5 : Int32)), some (.int (127 : Int32)), some (.long (0 : Int64)), none, some (.int (0 : Int32)), none, none] [] σ Q) ∧
     (a0 = (32 : Int32) →
      Wq 43 (d + 1) 39 [some (.ref 46), none, some (.int (σ.1 46 1)), some (.int (5 : Int32)), some (.int (120 : Int32)), some (.long (0 : Int64)), none, some (.int (0 : Int32)), none, none] [] σ Q))))) :
  Cl (d + 1) 43 [.ref 46, .int a0] σ Q := by
  exact Cl.run B_Scan_signed C_Scan_signed 28 fk_q43 ok_Scan_signed rfl h
set_option maxRecDepth 100000 in
set_option maxHeartbeats 4000000 in
theorem S_Scan_signed_39 {d : Nat} {v2 : Int32} {v3 : Int32} {v4 : Int32} {v5 : Int64} {v7 : Int32} {σ : fkS} {Q : Option Value → fkS → Prop} (h46_0 : σ.2.2 46 0 = 26)
  (h : ((v3 ≤ v7 →
    (Dv d 22 [.ref 46, .int (-1 : Int32), .int v2] σ (fun σ1 =>
    Q (some (.long (0 : Int64))) (sW σ1 σ)))) ∧
   (¬ v3 ≤ v7 →
    (((σ.1 46 2) ≤ (σ.1 46 1) →
      (Dv d 22 [.ref 46, .int (-1 : Int32), .int v2] σ (fun σ2 =>
      Q (some (.long (0 : Int64))) (sW σ2 σ)))) ∧
     (¬ (σ.1 46 2) ≤ (σ.1 46 1) →
      (¬ (26 : Nat) = 0 ∧
      (vp_in (σ.1 46 1) 4000 ∧
      ((¬ v7 = (v3 - (1 : Int32)) →
        Wq 43 (d + 1) 119 [some (.ref 46), none, some (.int v2), some (.int v3), some (.int v4), some (.long v5), none, some (.int v7), some (.int ((σ.1 25 ((σ.1 46 1).toNatClampNeg)) &&& (255 : Int32))), none] [] (sI σ 46 1 ((σ.1 46 1) + (1 : Int32))) Q) ∧
       (v7 = (v3 - (1 : Int32)) →
        ((¬ (((σ.1 25 ((σ.1 46 1).toNatClampNeg)) &&& (255 : Int32)) &&& (128 : Int32)) = 0 →
          Wq 43 (d + 1) 119 [some (.ref 46), none, some (.int v2), some (.int v3), some (.int v4), some (.long v5), none, some (.int v7), some (.int ((σ.1 25 ((σ.1 46 1).toNatClampNeg)) &&& (255 : Int32))), none] [] (sI σ 46 1 ((σ.1 46 1) + (1 : Int32))) Q) ∧
         ((((σ.1 25 ((σ.1 46 1).toNatClampNeg)) &&& (255 : Int32)) &&& (128 : Int32)) = 0 →
          (((((σ.1 25 ((σ.1 46 1).toNatClampNeg)) &&& (255 : Int32)) &&& v4) = 0 →
            Wq 43 (d + 1) 119 [some (.ref 46), none, some (.int v2), some (.int v3), some (.int v4), some (.long v5), none, some (.int v7), some (.int ((σ.1 25 ((σ.1 46 1).toNatClampNeg)) &&& (255 : Int32))), none] [] (sI σ 46 1 ((σ.1 46 1) + (1 : Int32))) Q) ∧
           (¬ (((σ.1 25 ((σ.1 46 1).toNatClampNeg)) &&& (255 : Int32)) &&& v4) = 0 →
            (((((σ.1 25 ((σ.1 46 1).toNatClampNeg)) &&& (255 : Int32)) &&& v4) = v4 →
              Wq 43 (d + 1) 119 [some (.ref 46), none, some (.int v2), some (.int v3), some (.int v4), some (.long v5), none, some (.int v7), some (.int ((σ.1 25 ((σ.1 46 1).toNatClampNeg)) &&& (255 : Int32))), none] [] (sI σ 46 1 ((σ.1 46 1) + (1 : Int32))) Q) ∧
             (¬ (((σ.1 25 ((σ.1 46 1).toNatClampNeg)) &&& (255 : Int32)) &&& v4) = v4 →
              (Dv d 22 [.ref 46, .int (-1 : Int32), .int v2] (sI σ 46 1 ((σ.1 46 1) + (1 : Int32))) (fun σ3 =>
              Q (some (.long (0 : Int64))) (sW σ3 σ)))))))))))))))))) :
  Wq 43 (d + 1) 39 [some (.ref 46), none, some (.int v2), some (.int v3), some (.int v4), some (.long v5), none, some (.int v7), none, none] [] σ Q := by
  rw [← sR_eta h46_0] at h ⊢
  exact fk_run_sound (B := B_Scan_signed) (C := C_Scan_signed) (n := 28) ok_Scan_signed h
set_option maxRecDepth 100000 in
set_option maxHeartbeats 4000000 in
theorem S_Scan_signed_119 {d : Nat} {v2 : Int32} {v3 : Int32} {v4 : Int32} {v5 : Int64} {v7 : Int32} {v8 : Int32} {σ : fkS} {Q : Option Value → fkS → Prop} 
  (h : (((128 : Int32) ≤ v8 →
    Wq 43 (d + 1) 39 [some (.ref 46), none, some (.int v2), some (.int v3), some (.int v4), some (.long (v5 ||| (fk_lshl ((v8 &&& (127 : Int32)).toInt64) ((7 : Int32) * v7)))), none, some (.int (v7 + (1 : Int32))), none, none] [] σ Q) ∧
   (¬ (128 : Int32) ≤ v8 →
    (((v8 &&& (64 : Int32)) = 0 →
      Wq 43 (d + 1) 170 [none, none, none, none, none, some (.long (v5 ||| (fk_lshl ((v8 &&& (127 : Int32)).toInt64) ((7 : Int32) * v7)))), none, some (.int v7), none, none] [.int (0 : Int32)] σ Q) ∧
     (¬ (v8 &&& (64 : Int32)) = 0 →
      (((64 : Int32) ≤ (((7 : Int32) * v7) + (7 : Int32)) →
        Wq 43 (d + 1) 170 [none, none, none, none, none, some (.long (v5 ||| (fk_lshl ((v8 &&& (127 : Int32)).toInt64) ((7 : Int32) * v7)))), none, some (.int v7), none, none] [.int (0 : Int32)] σ Q) ∧
       (¬ (64 : Int32) ≤ (((7 : Int32) * v7) + (7 : Int32)) →
        Wq 43 (d + 1) 170 [none, none, none, none, none, some (.long (v5 ||| (fk_lshl ((v8 &&& (127 : Int32)).toInt64) ((7 : Int32) * v7)))), none, some (.int v7), none, none] [.int (1 : Int32)] σ Q))))))) :
  Wq 43 (d + 1) 119 [some (.ref 46), none, some (.int v2), some (.int v3), some (.int v4), some (.long v5), none, some (.int v7), some (.int v8), none] [] σ Q := by
  exact fk_run_sound (B := B_Scan_signed) (C := C_Scan_signed) (n := 28) ok_Scan_signed h
set_option maxRecDepth 100000 in
set_option maxHeartbeats 4000000 in
theorem S_Scan_signed_170 {d : Nat} {v5 : Int64} {v7 : Int32} {s0 : Int32} {σ : fkS} {Q : Option Value → fkS → Prop} 
  (h : ((s0 = 0 →
    Q (some (.long v5)) σ) ∧
   (¬ s0 = 0 →
    Q (some (.long (v5 ||| (fk_lshl (Int64.ofNat 18446744073709551615) (((7 : Int32) * v7) + (7 : Int32)))))) σ))) :
  Wq 43 (d + 1) 170 [none, none, none, none, none, some (.long v5), none, some (.int v7), none, none] [.int s0] σ Q := by
  exact fk_run_sound (B := B_Scan_signed) (C := C_Scan_signed) (n := 28) ok_Scan_signed h
def B_Scan_widen : fkB := [(0, [(.aload_n 0, 1, []), (.getfield 15, 3, [10, 1, 510, 0]), (.aload_n 0, 1, []), (.getfield 19, 3, [10, 2, 513, 0]), (.if_icmp .ge 12, 3, [20])]),
  (11, [(.aload_n 0, 1, []), (.iconst (-1), 1, []), (.aload_n 0, 1, []), (.getfield 15, 3, [10, 1, 510, 0]), (.invokevirtual 34, 3, [22, 2, 972, 0, 3, 10])]),
  (20, [(.aload_n 0, 1, []), (.iload_n 1, 1, []), (.putfield 19, 3, [10, 2, 513, 0]), (.return_, 1, [])])]
set_option maxRecDepth 100000 in
theorem ok_Scan_widen : fk_okM 46 B_Scan_widen = true := by decide +kernel
abbrev C_Scan_widen : fkC := []
set_option maxRecDepth 100000 in
set_option maxHeartbeats 4000000 in
theorem S_Scan_widen {d : Nat} {a0 : Int32} {σ : fkS} {Q : Option Value → fkS → Prop} 
  (h : (((σ.1 46 2) ≤ (σ.1 46 1) →
    Q none (sI σ 46 2 a0)) ∧
   (¬ (σ.1 46 2) ≤ (σ.1 46 1) →
    (Dv d 22 [.ref 46, .int (-1 : Int32), .int (σ.1 46 1)] σ (fun σ1 =>
    Q none (sI (sW σ1 σ) 46 2 a0)))))) :
  Cl (d + 1) 46 [.ref 46, .int a0] σ Q := by
  exact Cl.run B_Scan_widen C_Scan_widen 6 fk_q46 ok_Scan_widen rfl h
def B_ModuleReader_content : fkB := [(0, [(.aload_n 0, 1, []), (.getfield 12, 3, [5, 0, 544, 0]), (.invokevirtual 48, 3, [20, 0, 964, 1, 4, 10]), (.ifCond .ne 4, 3, [11])]),
  (10, [(.return_, 1, [])]),
  (11, [(.iload_n 2, 1, []), (.ifCond .ne 23, 3, [35])]),
  (15, [(.aload_n 0, 1, []), (.invokevirtual 100, 3, [48, 0, 1083, 0, 4, 5]), (.pop, 1, []), (.aload_n 0, 1, []), (.getfield 12, 3, [5, 0, 544, 0]), (.aload_n 0, 1, []), (.getfield 12, 3, [5, 0, 544, 0]), (.getfield 103, 3, [10, 2, 514, 1]), (.putfield 60, 3, [10, 1, 511, 1]), (.return_, 1, [])]),
  (35, [(.aload_n 0, 1, []), (.getfield 12, 3, [5, 0, 544, 0]), (.invokevirtual 106, 3, [28, 0, 1088, 1, 4, 10]), (.istore_n 3, 1, []), (.iconst 0, 1, []), (.istore 4, 2, [])]),
  (46, [(.iload 4, 2, []), (.iload_n 3, 1, []), (.if_icmp .ge 27, 3, [76])]),
  (52, [(.aload_n 0, 1, []), (.getfield 12, 3, [5, 0, 544, 0]), (.invokevirtual 48, 3, [20, 0, 964, 1, 4, 10]), (.ifCond .eq 17, 3, [76])]),
  (62, [(.aload_n 0, 1, []), (.aload_n 1, 1, []), (.iload_n 2, 1, []), (.iload 4, 2, []), (.invokevirtual 109, 3, [49, 3, 1089, 0, 3, 5]), (.iinc 4 1, 3, []), (.goto (-27), 3, [46])]),
  (76, [(.return_, 1, [])])]
set_option maxRecDepth 100000 in
theorem ok_ModuleReader_content : fk_okM 47 B_ModuleReader_content = true := by decide +kernel
abbrev C_ModuleReader_content : fkC := [(46, [true, true, true, true, true])]
set_option maxRecDepth 100000 in
set_option maxHeartbeats 4000000 in
theorem S_ModuleReader_content {d : Nat} {a1 : Int32} {σ : fkS} {Q : Option Value → fkS → Prop} 
  (h : (Di d 20 [.ref 46] σ (fun x2 σ1 =>
  ((¬ x2 = 0 →
    ((¬ a1 = 0 →
      (Di d 28 [.ref 46] (sW σ1 σ) (fun x4 σ3 =>
      Wq 47 (d + 1) 46 [some (.ref 45), some (.ref 24), some (.int a1), some (.int x4), some (.int (0 : Int32))] [] (sW σ3 σ) Q))) ∧
     (a1 = 0 →
      (Di d 48 [.ref 45] (sW σ1 σ) (fun x6 σ5 =>
      Q none (sI (sW σ5 σ) 46 1 ((sW σ5 σ).1 46 2))))))) ∧
   (x2 = 0 →
    Q none (sW σ1 σ)))))) :
  Cl (d + 1) 47 [.ref 45, .ref 24, .int a1] σ Q := by
  exact Cl.run B_ModuleReader_content C_ModuleReader_content 12 fk_q47 ok_ModuleReader_content rfl h
set_option maxRecDepth 100000 in
set_option maxHeartbeats 4000000 in
theorem S_ModuleReader_content_46 {d : Nat} {v2 : Int32} {v3 : Int32} {v4 : Int32} {σ : fkS} {Q : Option Value → fkS → Prop} 
  (h : ((v3 ≤ v4 →
    Q none σ) ∧
   (¬ v3 ≤ v4 →
    (Di d 20 [.ref 46] σ (fun x2 σ1 =>
    ((x2 = 0 →
      Q none (sW σ1 σ)) ∧
     (¬ x2 = 0 →
      (Dv d 49 [.ref 45, .ref 24, .int v2, .int v4] (sW σ1 σ) (fun σ3 =>
      Wq 47 (d + 1) 46 [some (.ref 45), some (.ref 24), some (.int v2), some (.int v3), some (.int (v4 + (1 : Int32)))] [] (sW σ3 σ) Q))))))))) :
  Wq 47 (d + 1) 46 [some (.ref 45), some (.ref 24), some (.int v2), some (.int v3), some (.int v4)] [] σ Q := by
  exact fk_run_sound (B := B_ModuleReader_content) (C := C_ModuleReader_content) (n := 12) ok_ModuleReader_content h
def B_ModuleReader_skipName : fkB := [(0, [(.aload_n 0, 1, []), (.getfield 12, 3, [5, 0, 544, 0]), (.invokevirtual 120, 3, [26, 0, 1087, 1, 5, 10]), (.lstore_n 1, 1, []), (.lload_n 1, 1, []), (.aload_n 0, 1, []), (.getfield 12, 3, [5, 0, 544, 0]), (.getfield 103, 3, [10, 2, 514, 1]), (.aload_n 0, 1, []), (.getfield 12, 3, [5, 0, 544, 0]), (.getfield 60, 3, [10, 1, 511, 1]), (.isub, 1, []), (.i2l, 1, []), (.lcmp, 1, []), (.ifCond .le 18, 3, [44])]),
  (29, [(.aload_n 0, 1, []), (.getfield 12, 3, [5, 0, 544, 0]), (.iconst (-1), 1, []), (.aload_n 0, 1, []), (.getfield 12, 3, [5, 0, 544, 0]), (.getfield 103, 3, [10, 2, 514, 1]), (.invokevirtual 90, 3, [22, 2, 984, 1, 3, 10])]),
  (44, [(.aload_n 0, 1, []), (.getfield 12, 3, [5, 0, 544, 0]), (.invokevirtual 48, 3, [20, 0, 964, 1, 4, 10]), (.ifCond .ne 5, 3, [56])]),
  (54, [(.iconst 0, 1, []), (.ireturn, 1, [])]),
  (56, [(.aload_n 0, 1, []), (.getfield 12, 3, [5, 0, 544, 0]), (.dup, 1, []), (.getfield 60, 3, [10, 1, 511, 1]), (.lload_n 1, 1, []), (.l2i, 1, []), (.iadd, 1, []), (.putfield 60, 3, [10, 1, 511, 1]), (.lload_n 1, 1, []), (.l2i, 1, []), (.ireturn, 1, [])])]
set_option maxRecDepth 100000 in
theorem ok_ModuleReader_skipName : fk_okM 48 B_ModuleReader_skipName = true := by decide +kernel
abbrev C_ModuleReader_skipName : fkC := [(44, [true, true, false])]
set_option maxRecDepth 100000 in
set_option maxHeartbeats 4000000 in
theorem S_ModuleReader_skipName {d : Nat}  {σ : fkS} {Q : Option Value → fkS → Prop} 
  (h : (Dj d 26 [.ref 46] σ (fun x2 σ1 =>
  (((lg_cmp x2 ((((sW σ1 σ).1 46 2) - ((sW σ1 σ).1 46 1)).toInt64)) ≤ 0 →
    Wq 48 (d + 1) 44 [some (.ref 45), some (.long x2), none] [] (sW σ1 σ) Q) ∧
   (¬ (lg_cmp x2 ((((sW σ1 σ).1 46 2) - ((sW σ1 σ).1 46 1)).toInt64)) ≤ 0 →
    (Dv d 22 [.ref 46, .int (-1 : Int32), .int ((sW σ1 σ).1 46 2)] (sW σ1 σ) (fun σ3 =>
    Wq 48 (d + 1) 44 [some (.ref 45), some (.long x2), none] [] (sW σ3 σ) Q))))))) :
  Cl (d + 1) 48 [.ref 45] σ Q := by
  exact Cl.run B_ModuleReader_skipName C_ModuleReader_skipName 8 fk_q48 ok_ModuleReader_skipName rfl h
set_option maxRecDepth 100000 in
set_option maxHeartbeats 4000000 in
theorem S_ModuleReader_skipName_44 {d : Nat} {v1 : Int64} {σ : fkS} {Q : Option Value → fkS → Prop} 
  (h : (Di d 20 [.ref 46] σ (fun x2 σ1 =>
  ((¬ x2 = 0 →
    Q (some (.int v1.toInt32)) (sI (sW σ1 σ) 46 1 (((sW σ1 σ).1 46 1) + v1.toInt32))) ∧
   (x2 = 0 →
    Q (some (.int (0 : Int32))) (sW σ1 σ)))))) :
  Wq 48 (d + 1) 44 [some (.ref 45), some (.long v1), none] [] σ Q := by
  exact fk_run_sound (B := B_ModuleReader_skipName) (C := C_ModuleReader_skipName) (n := 8) ok_ModuleReader_skipName h
def B_ModuleReader_thing : fkB := [(0, [(.iload_n 2, 1, []), (.tableswitch 147 1 7 #[43, 147, 51, 78, 108, 129, 138], 43, [148, 44, 148, 52, 79, 109, 130, 139])]),
  (44, [(.aload_n 0, 1, []), (.aload_n 1, 1, []), (.invokevirtual 113, 3, [50, 1, 1093, 0, 3, 5]), (.goto 105, 3, [154])]),
  (52, [(.aload_n 1, 1, []), (.getfield 117, 3, [6, 4, 393, 1]), (.iload_n 3, 1, []), (.aload_n 0, 1, []), (.getfield 12, 3, [5, 0, 544, 0]), (.invokevirtual 120, 3, [26, 0, 1087, 1, 5, 10]), (.l2i, 1, []), (.iastore, 1, []), (.aload_n 1, 1, []), (.dup, 1, []), (.getfield 82, 3, [6, 3, 389, 1]), (.iconst 1, 1, []), (.iadd, 1, []), (.putfield 82, 3, [6, 3, 389, 1]), (.goto 78, 3, [154])]),
  (79, [(.aload_n 0, 1, []), (.getfield 12, 3, [5, 0, 544, 0]), (.bipush 112, 2, []), (.invokevirtual 52, 3, [21, 1, 968, 1, 3, 10]), (.aload_n 0, 1, []), (.aload_n 1, 1, []), (.getfield 124, 3, [6, 6, 404, 1]), (.invokevirtual 128, 3, [51, 1, 1098, 0, 3, 5]), (.aload_n 1, 1, []), (.dup, 1, []), (.getfield 132, 3, [6, 5, 399, 1]), (.iconst 1, 1, []), (.iadd, 1, []), (.putfield 132, 3, [6, 5, 399, 1]), (.goto 48, 3, [154])]),
  (109, [(.aload_n 0, 1, []), (.aload_n 1, 1, []), (.getfield 135, 3, [6, 8, 413, 1]), (.invokevirtual 128, 3, [51, 1, 1098, 0, 3, 5]), (.aload_n 1, 1, []), (.dup, 1, []), (.getfield 138, 3, [6, 7, 408, 1]), (.iconst 1, 1, []), (.iadd, 1, []), (.putfield 138, 3, [6, 7, 408, 1]), (.goto 27, 3, [154])]),
  (130, [(.aload_n 0, 1, []), (.aload_n 1, 1, []), (.iload_n 3, 1, []), (.invokevirtual 141, 3, [52, 2, 1103, 0, 3, 5]), (.goto 18, 3, [154])]),
  (139, [(.aload_n 0, 1, []), (.aload_n 1, 1, []), (.iload_n 3, 1, []), (.invokevirtual 144, 3, [55, 2, 1117, 0, 3, 5]), (.goto 9, 3, [154])]),
  (148, [(.aload_n 0, 1, []), (.aload_n 1, 1, []), (.iload_n 3, 1, []), (.invokevirtual 147, 3, [56, 2, 1121, 0, 3, 5])]),
  (154, [(.return_, 1, [])])]
set_option maxRecDepth 100000 in
theorem ok_ModuleReader_thing : fk_okM 49 B_ModuleReader_thing = true := by decide +kernel
abbrev C_ModuleReader_thing : fkC := []
set_option maxRecDepth 100000 in
set_option maxHeartbeats 4000000 in
theorem S_ModuleReader_thing {d : Nat} {a1 : Int32} {a2 : Int32} {σ : fkS} {Q : Option Value → fkS → Prop} 
  (h : (((a1.toInt < 1 ∨ 7 < a1.toInt) →
    (Dv d 56 [.ref 45, .ref 24, .int a2] σ (fun σ1 =>
    Q none (sW σ1 σ)))) ∧
   (a1.toInt = 1 →
    (Dv d 50 [.ref 45, .ref 24] σ (fun σ2 =>
    Q none (sW σ2 σ)))) ∧
   (a1.toInt = 2 →
    (Dv d 56 [.ref 45, .ref 24, .int a2] σ (fun σ3 =>
    Q none (sW σ3 σ)))) ∧
   (a1.toInt = 3 →
    (Dj d 26 [.ref 46] σ (fun x5 σ4 =>
    (vp_in a2 60 ∧
    Q none (sI (sI (sW σ4 σ) 27 a2.toNatClampNeg x5.toInt32) 24 3 (((sW σ4 σ).1 24 3) + (1 : Int32))))))) ∧
   (a1.toInt = 4 →
    (Dv d 21 [.ref 46, .int (112 : Int32)] σ (fun σ6 =>
    (Dv d 51 [.ref 45, .ref 28] (sW σ6 σ) (fun σ7 =>
    Q none (sI (sW σ7 σ) 24 5 (((sW σ7 σ).1 24 5) + (1 : Int32)))))))) ∧
   (a1.toInt = 5 →
    (Dv d 51 [.ref 45, .ref 29] σ (fun σ8 =>
    Q none (sI (sW σ8 σ) 24 7 (((sW σ8 σ).1 24 7) + (1 : Int32)))))) ∧
   (a1.toInt = 6 →
    (Dv d 52 [.ref 45, .ref 24, .int a2] σ (fun σ9 =>
    Q none (sW σ9 σ)))) ∧
   (a1.toInt = 7 →
    (Dv d 55 [.ref 45, .ref 24, .int a2] σ (fun σ10 =>
    Q none (sW σ10 σ)))) ∧ True)) :
  Cl (d + 1) 49 [.ref 45, .ref 24, .int a1, .int a2] σ Q := by
  exact Cl.run B_ModuleReader_thing C_ModuleReader_thing 12 fk_q49 ok_ModuleReader_thing rfl h
def B_ModuleReader_type : fkB := [(0, [(.iconst 3, 1, []), (.aload_n 1, 1, []), (.getfield 150, 3, [6, 1, 383, 1]), (.imul, 1, []), (.istore_n 2, 1, []), (.aload_n 0, 1, []), (.getfield 12, 3, [5, 0, 544, 0]), (.bipush 96, 2, []), (.invokevirtual 52, 3, [21, 1, 968, 1, 3, 10]), (.aload_n 0, 1, []), (.getfield 12, 3, [5, 0, 544, 0]), (.invokevirtual 48, 3, [20, 0, 964, 1, 4, 10]), (.ifCond .eq 13, 3, [36])]),
  (26, [(.aload_n 0, 1, []), (.getfield 12, 3, [5, 0, 544, 0]), (.invokevirtual 106, 3, [28, 0, 1088, 1, 4, 10]), (.goto 4, 3, [37])]),
  (36, [(.iconst 0, 1, [])]),
  (37, [(.istore_n 3, 1, []), (.aload_n 1, 1, []), (.getfield 153, 3, [6, 2, 386, 1]), (.iload_n 2, 1, []), (.aload_n 0, 1, []), (.getfield 12, 3, [5, 0, 544, 0]), (.getfield 60, 3, [10, 1, 511, 1]), (.iastore, 1, []), (.aload_n 1, 1, []), (.getfield 153, 3, [6, 2, 386, 1]), (.iload_n 2, 1, []), (.iconst 1, 1, []), (.iadd, 1, []), (.iload_n 3, 1, []), (.iastore, 1, []), (.iconst 0, 1, []), (.istore 4, 2, [])]),
  (63, [(.iload 4, 2, []), (.iload_n 3, 1, []), (.if_icmp .ge 27, 3, [93])]),
  (69, [(.aload_n 0, 1, []), (.getfield 12, 3, [5, 0, 544, 0]), (.invokevirtual 48, 3, [20, 0, 964, 1, 4, 10]), (.ifCond .eq 17, 3, [93])]),
  (79, [(.aload_n 0, 1, []), (.getfield 12, 3, [5, 0, 544, 0]), (.invokevirtual 156, 3, [30, 0, 1097, 1, 4, 10]), (.pop, 1, []), (.iinc 4 1, 3, []), (.goto (-27), 3, [63])]),
  (93, [(.aload_n 0, 1, []), (.getfield 12, 3, [5, 0, 544, 0]), (.invokevirtual 48, 3, [20, 0, 964, 1, 4, 10]), (.ifCond .ne 4, 3, [104])]),
  (103, [(.return_, 1, [])]),
  (104, [(.aload_n 0, 1, []), (.getfield 12, 3, [5, 0, 544, 0]), (.getfield 60, 3, [10, 1, 511, 1]), (.istore 4, 2, []), (.aload_n 0, 1, []), (.getfield 12, 3, [5, 0, 544, 0]), (.invokevirtual 106, 3, [28, 0, 1088, 1, 4, 10]), (.istore 5, 2, []), (.iload 5, 2, []), (.iconst 1, 1, []), (.if_icmp .le 13, 3, [138])]),
  (128, [(.aload_n 0, 1, []), (.getfield 12, 3, [5, 0, 544, 0]), (.iconst (-1), 1, []), (.iload 4, 2, []), (.invokevirtual 90, 3, [22, 2, 984, 1, 3, 10])]),
  (138, [(.aload_n 1, 1, []), (.getfield 153, 3, [6, 2, 386, 1]), (.iload_n 2, 1, []), (.iconst 2, 1, []), (.iadd, 1, []), (.iload 5, 2, []), (.iconst 1, 1, []), (.if_icmp .ne 23, 3, [171])]),
  (151, [(.aload_n 0, 1, []), (.getfield 12, 3, [5, 0, 544, 0]), (.invokevirtual 48, 3, [20, 0, 964, 1, 4, 10]), (.ifCond .eq 13, 3, [171])]),
  (161, [(.aload_n 0, 1, []), (.getfield 12, 3, [5, 0, 544, 0]), (.invokevirtual 156, 3, [30, 0, 1097, 1, 4, 10]), (.goto 4, 3, [172])]),
  (171, [(.iconst 0, 1, [])]),
  (172, [(.iastore, 1, []), (.aload_n 1, 1, []), (.dup, 1, []), (.getfield 150, 3, [6, 1, 383, 1]), (.iconst 1, 1, []), (.iadd, 1, []), (.putfield 150, 3, [6, 1, 383, 1]), (.return_, 1, [])])]
set_option maxRecDepth 100000 in
theorem ok_ModuleReader_type : fk_okM 50 B_ModuleReader_type = true := by decide +kernel
abbrev C_ModuleReader_type : fkC := [(37, [true, true, true, false, false, false]), (63, [true, true, true, true, true, false]), (93, [true, true, true, false, false, false]), (138, [true, true, true, false, false, true])]
set_option maxRecDepth 100000 in
set_option maxHeartbeats 4000000 in
theorem S_ModuleReader_type {d : Nat}  {σ : fkS} {Q : Option Value → fkS → Prop} 
  (h : (Dv d 21 [.ref 46, .int (96 : Int32)] σ (fun σ1 =>
  (Di d 20 [.ref 46] (sW σ1 σ) (fun x3 σ2 =>
  ((x3 = 0 →
    Wq 50 (d + 1) 37 [some (.ref 45), some (.ref 24), some (.int ((3 : Int32) * (σ.1 24 1))), none, none, none] [.int (0 : Int32)] (sW σ2 σ) Q) ∧
   (¬ x3 = 0 →
    (Di d 28 [.ref 46] (sW σ2 σ) (fun x5 σ4 =>
    Wq 50 (d + 1) 37 [some (.ref 45), some (.ref 24), some (.int ((3 : Int32) * (σ.1 24 1))), none, none, none] [.int x5] (sW σ4 σ) Q))))))))) :
  Cl (d + 1) 50 [.ref 45, .ref 24] σ Q := by
  exact Cl.run B_ModuleReader_type C_ModuleReader_type 19 fk_q50 ok_ModuleReader_type rfl h
set_option maxRecDepth 100000 in
set_option maxHeartbeats 4000000 in
theorem S_ModuleReader_type_37 {d : Nat} {v2 : Int32} {s0 : Int32} {σ : fkS} {Q : Option Value → fkS → Prop} 
  (h : (vp_in v2 180 ∧
  (vp_in (v2 + (1 : Int32)) 180 ∧
  Wq 50 (d + 1) 63 [some (.ref 45), some (.ref 24), some (.int v2), some (.int s0), some (.int (0 : Int32)), none] [] (sI (sI σ 26 v2.toNatClampNeg (σ.1 46 1)) 26 ((v2 + (1 : Int32)).toNatClampNeg) s0) Q))) :
  Wq 50 (d + 1) 37 [some (.ref 45), some (.ref 24), some (.int v2), none, none, none] [.int s0] σ Q := by
  exact fk_run_sound (B := B_ModuleReader_type) (C := C_ModuleReader_type) (n := 19) ok_ModuleReader_type h
set_option maxRecDepth 100000 in
set_option maxHeartbeats 4000000 in
theorem S_ModuleReader_type_63 {d : Nat} {v2 : Int32} {v3 : Int32} {v4 : Int32} {σ : fkS} {Q : Option Value → fkS → Prop} 
  (h : ((v3 ≤ v4 →
    Wq 50 (d + 1) 93 [some (.ref 45), some (.ref 24), some (.int v2), none, none, none] [] σ Q) ∧
   (¬ v3 ≤ v4 →
    (Di d 20 [.ref 46] σ (fun x2 σ1 =>
    ((x2 = 0 →
      Wq 50 (d + 1) 93 [some (.ref 45), some (.ref 24), some (.int v2), none, none, none] [] (sW σ1 σ) Q) ∧
     (¬ x2 = 0 →
      (Di d 30 [.ref 46] (sW σ1 σ) (fun x4 σ3 =>
      Wq 50 (d + 1) 63 [some (.ref 45), some (.ref 24), some (.int v2), some (.int v3), some (.int (v4 + (1 : Int32))), none] [] (sW σ3 σ) Q))))))))) :
  Wq 50 (d + 1) 63 [some (.ref 45), some (.ref 24), some (.int v2), some (.int v3), some (.int v4), none] [] σ Q := by
  exact fk_run_sound (B := B_ModuleReader_type) (C := C_ModuleReader_type) (n := 19) ok_ModuleReader_type h
set_option maxRecDepth 100000 in
set_option maxHeartbeats 4000000 in
theorem S_ModuleReader_type_93 {d : Nat} {v2 : Int32} {σ : fkS} {Q : Option Value → fkS → Prop} 
  (h : (Di d 20 [.ref 46] σ (fun x2 σ1 =>
  ((¬ x2 = 0 →
    (Di d 28 [.ref 46] (sW σ1 σ) (fun x4 σ3 =>
    ((x4 ≤ (1 : Int32) →
      Wq 50 (d + 1) 138 [some (.ref 45), some (.ref 24), some (.int v2), none, none, some (.int x4)] [] (sW σ3 σ) Q) ∧
     (¬ x4 ≤ (1 : Int32) →
      (Dv d 22 [.ref 46, .int (-1 : Int32), .int ((sW σ1 σ).1 46 1)] (sW σ3 σ) (fun σ5 =>
      Wq 50 (d + 1) 138 [some (.ref 45), some (.ref 24), some (.int v2), none, none, some (.int x4)] [] (sW σ5 σ) Q))))))) ∧
   (x2 = 0 →
    Q none (sW σ1 σ)))))) :
  Wq 50 (d + 1) 93 [some (.ref 45), some (.ref 24), some (.int v2), none, none, none] [] σ Q := by
  exact fk_run_sound (B := B_ModuleReader_type) (C := C_ModuleReader_type) (n := 19) ok_ModuleReader_type h
set_option maxRecDepth 100000 in
set_option maxHeartbeats 4000000 in
theorem S_ModuleReader_type_138 {d : Nat} {v2 : Int32} {v5 : Int32} {σ : fkS} {Q : Option Value → fkS → Prop} 
  (h : ((¬ v5 = (1 : Int32) →
    (vp_in (v2 + (2 : Int32)) 180 ∧
    Q none (sI (sI σ 26 ((v2 + (2 : Int32)).toNatClampNeg) (0 : Int32)) 24 1 ((σ.1 24 1) + (1 : Int32))))) ∧
   (v5 = (1 : Int32) →
    (Di d 20 [.ref 46] σ (fun x2 σ1 =>
    ((x2 = 0 →
      (vp_in (v2 + (2 : Int32)) 180 ∧
      Q none (sI (sI (sW σ1 σ) 26 ((v2 + (2 : Int32)).toNatClampNeg) (0 : Int32)) 24 1 (((sW σ1 σ).1 24 1) + (1 : Int32))))) ∧
     (¬ x2 = 0 →
      (Di d 30 [.ref 46] (sW σ1 σ) (fun x4 σ3 =>
      (vp_in (v2 + (2 : Int32)) 180 ∧
      Q none (sI (sI (sW σ3 σ) 26 ((v2 + (2 : Int32)).toNatClampNeg) x4) 24 1 (((sW σ3 σ).1 24 1) + (1 : Int32))))))))))))) :
  Wq 50 (d + 1) 138 [some (.ref 45), some (.ref 24), some (.int v2), none, none, some (.int v5)] [] σ Q := by
  exact fk_run_sound (B := B_ModuleReader_type) (C := C_ModuleReader_type) (n := 19) ok_ModuleReader_type h
def B_ModuleReader_limits : fkB := [(0, [(.aload_n 0, 1, []), (.getfield 12, 3, [5, 0, 544, 0]), (.invokevirtual 48, 3, [20, 0, 964, 1, 4, 10]), (.ifCond .ne 4, 3, [11])]),
  (10, [(.return_, 1, [])]),
  (11, [(.aload_n 0, 1, []), (.getfield 12, 3, [5, 0, 544, 0]), (.getfield 60, 3, [10, 1, 511, 1]), (.istore_n 2, 1, []), (.aload_n 0, 1, []), (.getfield 12, 3, [5, 0, 544, 0]), (.invokevirtual 94, 3, [24, 0, 980, 1, 4, 10]), (.istore_n 3, 1, []), (.iload_n 3, 1, []), (.iconst 1, 1, []), (.if_icmp .le 12, 3, [41])]),
  (32, [(.aload_n 0, 1, []), (.getfield 12, 3, [5, 0, 544, 0]), (.iconst (-1), 1, []), (.iload_n 2, 1, []), (.invokevirtual 90, 3, [22, 2, 984, 1, 3, 10])]),
  (41, [(.aload_n 1, 1, []), (.iconst 0, 1, []), (.aload_n 0, 1, []), (.getfield 12, 3, [5, 0, 544, 0]), (.invokevirtual 48, 3, [20, 0, 964, 1, 4, 10]), (.ifCond .eq 13, 3, [63])]),
  (53, [(.aload_n 0, 1, []), (.getfield 12, 3, [5, 0, 544, 0]), (.invokevirtual 120, 3, [26, 0, 1087, 1, 5, 10]), (.goto 4, 3, [64])]),
  (63, [(.lconst 0, 1, [])]),
  (64, [(.lastore, 1, []), (.aload_n 1, 1, []), (.iconst 1, 1, []), (.aload_n 0, 1, []), (.getfield 12, 3, [5, 0, 544, 0]), (.invokevirtual 48, 3, [20, 0, 964, 1, 4, 10]), (.ifCond .eq 18, 3, [92])]),
  (77, [(.iload_n 3, 1, []), (.iconst 1, 1, []), (.if_icmp .ne 13, 3, [92])]),
  (82, [(.aload_n 0, 1, []), (.getfield 12, 3, [5, 0, 544, 0]), (.invokevirtual 120, 3, [26, 0, 1087, 1, 5, 10]), (.goto 6, 3, [95])]),
  (92, [(.ldc2_w 159, 3, [18446744073709551615, 1102])]),
  (95, [(.lastore, 1, []), (.return_, 1, [])])]
set_option maxRecDepth 100000 in
theorem ok_ModuleReader_limits : fk_okM 51 B_ModuleReader_limits = true := by decide +kernel
abbrev C_ModuleReader_limits : fkC := [(64, [true, true, false, true])]
set_option maxRecDepth 100000 in
set_option maxHeartbeats 4000000 in
theorem S_ModuleReader_limits {d : Nat}  {σ : fkS} {Q : Option Value → fkS → Prop} 
  (h : (Di d 20 [.ref 46] σ (fun x2 σ1 =>
  ((¬ x2 = 0 →
    (Di d 24 [.ref 46] (sW σ1 σ) (fun x4 σ3 =>
    ((x4 ≤ (1 : Int32) →
      (Di d 20 [.ref 46] (sW σ3 σ) (fun x6 σ5 =>
      ((x6 = 0 →
        Wq 51 (d + 1) 64 [some (.ref 45), some (.ref 28), none, some (.int x4)] [.long (0 : Int64), .int (0 : Int32), .ref 28] (sW σ5 σ) Q) ∧
       (¬ x6 = 0 →
        (Dj d 26 [.ref 46] (sW σ5 σ) (fun x8 σ7 =>
        Wq 51 (d + 1) 64 [some (.ref 45), some (.ref 28), none, some (.int x4)] [.long x8, .int (0 : Int32), .ref 28] (sW σ7 σ) Q))))))) ∧
     (¬ x4 ≤ (1 : Int32) →
      (Dv d 22 [.ref 46, .int (-1 : Int32), .int ((sW σ1 σ).1 46 1)] (sW σ3 σ) (fun σ9 =>
      (Di d 20 [.ref 46] (sW σ9 σ) (fun x11 σ10 =>
      ((x11 = 0 →
        Wq 51 (d + 1) 64 [some (.ref 45), some (.ref 28), none, some (.int x4)] [.long (0 : Int64), .int (0 : Int32), .ref 28] (sW σ10 σ) Q) ∧
       (¬ x11 = 0 →
        (Dj d 26 [.ref 46] (sW σ10 σ) (fun x13 σ12 =>
        Wq 51 (d + 1) 64 [some (.ref 45), some (.ref 28), none, some (.int x4)] [.long x13, .int (0 : Int32), .ref 28] (sW σ12 σ) Q))))))))))))) ∧
   (x2 = 0 →
    Q none (sW σ1 σ)))))) :
  Cl (d + 1) 51 [.ref 45, .ref 28] σ Q := by
  exact Cl.run B_ModuleReader_limits C_ModuleReader_limits 15 fk_q51 ok_ModuleReader_limits rfl h
set_option maxRecDepth 100000 in
set_option maxHeartbeats 4000000 in
theorem S_ModuleReader_limits_64 {d : Nat} {v3 : Int32} {s1 : Int32} {s2 : Int64} {σ : fkS} {Q : Option Value → fkS → Prop} 
  (h : (vp_in s1 2 ∧
  (Di d 20 [.ref 46] (sL σ 28 s1.toNatClampNeg s2) (fun x2 σ1 =>
  ((x2 = 0 →
    (vp_in (1 : Int32) 2 ∧
    Q none (sL (sW σ1 σ) 28 ((1 : Int32).toNatClampNeg) (Int64.ofNat 18446744073709551615)))) ∧
   (¬ x2 = 0 →
    ((¬ v3 = (1 : Int32) →
      (vp_in (1 : Int32) 2 ∧
      Q none (sL (sW σ1 σ) 28 ((1 : Int32).toNatClampNeg) (Int64.ofNat 18446744073709551615)))) ∧
     (v3 = (1 : Int32) →
      (Dj d 26 [.ref 46] (sW σ1 σ) (fun x4 σ3 =>
      (vp_in (1 : Int32) 2 ∧
      Q none (sL (sW σ3 σ) 28 ((1 : Int32).toNatClampNeg) x4)))))))))))) :
  Wq 51 (d + 1) 64 [some (.ref 45), some (.ref 28), none, some (.int v3)] [.long s2, .int s1, .ref 28] σ Q := by
  exact fk_run_sound (B := B_ModuleReader_limits) (C := C_ModuleReader_limits) (n := 15) ok_ModuleReader_limits h
def B_ModuleReader_limits_v1 : fkB := [(0, [(.aload_n 0, 1, []), (.getfield 12, 3, [5, 0, 544, 0]), (.invokevirtual 48, 3, [20, 0, 964, 1, 4, 10]), (.ifCond .ne 4, 3, [11])]),
  (10, [(.return_, 1, [])]),
  (11, [(.aload_n 0, 1, []), (.getfield 12, 3, [5, 0, 544, 0]), (.getfield 60, 3, [10, 1, 511, 1]), (.istore_n 2, 1, []), (.aload_n 0, 1, []), (.getfield 12, 3, [5, 0, 544, 0]), (.invokevirtual 94, 3, [24, 0, 980, 1, 4, 10]), (.istore_n 3, 1, []), (.iload_n 3, 1, []), (.iconst 1, 1, []), (.if_icmp .le 12, 3, [41])]),
  (32, [(.aload_n 0, 1, []), (.getfield 12, 3, [5, 0, 544, 0]), (.iconst (-1), 1, []), (.iload_n 2, 1, []), (.invokevirtual 90, 3, [22, 2, 984, 1, 3, 10])]),
  (41, [(.aload_n 1, 1, []), (.iconst 0, 1, []), (.aload_n 0, 1, []), (.getfield 12, 3, [5, 0, 544, 0]), (.invokevirtual 48, 3, [20, 0, 964, 1, 4, 10]), (.ifCond .eq 13, 3, [63])]),
  (53, [(.aload_n 0, 1, []), (.getfield 12, 3, [5, 0, 544, 0]), (.invokevirtual 120, 3, [26, 0, 1087, 1, 5, 10]), (.goto 4, 3, [64])]),
  (63, [(.lconst 0, 1, [])]),
  (64, [(.lastore, 1, []), (.aload_n 1, 1, []), (.iconst 1, 1, []), (.aload_n 0, 1, []), (.getfield 12, 3, [5, 0, 544, 0]), (.invokevirtual 48, 3, [20, 0, 964, 1, 4, 10]), (.ifCond .eq 18, 3, [92])]),
  (77, [(.iload_n 3, 1, []), (.iconst 1, 1, []), (.if_icmp .ne 13, 3, [92])]),
  (82, [(.aload_n 0, 1, []), (.getfield 12, 3, [5, 0, 544, 0]), (.invokevirtual 120, 3, [26, 0, 1087, 1, 5, 10]), (.goto 6, 3, [95])]),
  (92, [(.ldc2_w 159, 3, [18446744073709551615, 1102])]),
  (95, [(.lastore, 1, []), (.return_, 1, [])])]
set_option maxRecDepth 100000 in
theorem ok_ModuleReader_limits_v1 : fk_okM 51 B_ModuleReader_limits_v1 = true := by decide +kernel
abbrev C_ModuleReader_limits_v1 : fkC := [(64, [true, true, false, true])]
set_option maxRecDepth 100000 in
set_option maxHeartbeats 4000000 in
theorem S_ModuleReader_limits_v1 {d : Nat}  {σ : fkS} {Q : Option Value → fkS → Prop} 
  (h : (Di d 20 [.ref 46] σ (fun x2 σ1 =>
  ((¬ x2 = 0 →
    (Di d 24 [.ref 46] (sW σ1 σ) (fun x4 σ3 =>
    ((x4 ≤ (1 : Int32) →
      (Di d 20 [.ref 46] (sW σ3 σ) (fun x6 σ5 =>
      ((x6 = 0 →
        Wq 51 (d + 1) 64 [some (.ref 45), some (.ref 29), none, some (.int x4)] [.long (0 : Int64), .int (0 : Int32), .ref 29] (sW σ5 σ) Q) ∧
       (¬ x6 = 0 →
        (Dj d 26 [.ref 46] (sW σ5 σ) (fun x8 σ7 =>
        Wq 51 (d + 1) 64 [some (.ref 45), some (.ref 29), none, some (.int x4)] [.long x8, .int (0 : Int32), .ref 29] (sW σ7 σ) Q))))))) ∧
     (¬ x4 ≤ (1 : Int32) →
      (Dv d 22 [.ref 46, .int (-1 : Int32), .int ((sW σ1 σ).1 46 1)] (sW σ3 σ) (fun σ9 =>
      (Di d 20 [.ref 46] (sW σ9 σ) (fun x11 σ10 =>
      ((x11 = 0 →
        Wq 51 (d + 1) 64 [some (.ref 45), some (.ref 29), none, some (.int x4)] [.long (0 : Int64), .int (0 : Int32), .ref 29] (sW σ10 σ) Q) ∧
       (¬ x11 = 0 →
        (Dj d 26 [.ref 46] (sW σ10 σ) (fun x13 σ12 =>
        Wq 51 (d + 1) 64 [some (.ref 45), some (.ref 29), none, some (.int x4)] [.long x13, .int (0 : Int32), .ref 29] (sW σ12 σ) Q))))))))))))) ∧
   (x2 = 0 →
    Q none (sW σ1 σ)))))) :
  Cl (d + 1) 51 [.ref 45, .ref 29] σ Q := by
  exact Cl.run B_ModuleReader_limits_v1 C_ModuleReader_limits_v1 15 fk_q51 ok_ModuleReader_limits_v1 rfl h
set_option maxRecDepth 100000 in
set_option maxHeartbeats 4000000 in
theorem S_ModuleReader_limits_v1_64 {d : Nat} {v3 : Int32} {s1 : Int32} {s2 : Int64} {σ : fkS} {Q : Option Value → fkS → Prop} 
  (h : (vp_in s1 2 ∧
  (Di d 20 [.ref 46] (sL σ 29 s1.toNatClampNeg s2) (fun x2 σ1 =>
  ((x2 = 0 →
    (vp_in (1 : Int32) 2 ∧
    Q none (sL (sW σ1 σ) 29 ((1 : Int32).toNatClampNeg) (Int64.ofNat 18446744073709551615)))) ∧
   (¬ x2 = 0 →
    ((¬ v3 = (1 : Int32) →
      (vp_in (1 : Int32) 2 ∧
      Q none (sL (sW σ1 σ) 29 ((1 : Int32).toNatClampNeg) (Int64.ofNat 18446744073709551615)))) ∧
     (v3 = (1 : Int32) →
      (Dj d 26 [.ref 46] (sW σ1 σ) (fun x4 σ3 =>
      (vp_in (1 : Int32) 2 ∧
      Q none (sL (sW σ3 σ) 29 ((1 : Int32).toNatClampNeg) x4)))))))))))) :
  Wq 51 (d + 1) 64 [some (.ref 45), some (.ref 29), none, some (.int v3)] [.long s2, .int s1, .ref 29] σ Q := by
  exact fk_run_sound (B := B_ModuleReader_limits_v1) (C := C_ModuleReader_limits_v1) (n := 15) ok_ModuleReader_limits_v1 h
def B_ModuleReader_oneGlobal : fkB := [(0, [(.aload_n 1, 1, []), (.getfield 161, 3, [6, 10, 421, 1]), (.iconst 3, 1, []), (.iload_n 2, 1, []), (.imul, 1, []), (.aload_n 0, 1, []), (.getfield 12, 3, [5, 0, 544, 0]), (.invokevirtual 156, 3, [30, 0, 1097, 1, 4, 10]), (.iastore, 1, []), (.aload_n 0, 1, []), (.getfield 12, 3, [5, 0, 544, 0]), (.invokevirtual 48, 3, [20, 0, 964, 1, 4, 10]), (.ifCond .ne 4, 3, [26])]),
  (25, [(.return_, 1, [])]),
  (26, [(.aload_n 0, 1, []), (.getfield 12, 3, [5, 0, 544, 0]), (.getfield 60, 3, [10, 1, 511, 1]), (.istore_n 3, 1, []), (.aload_n 1, 1, []), (.getfield 161, 3, [6, 10, 421, 1]), (.iconst 3, 1, []), (.iload_n 2, 1, []), (.imul, 1, []), (.iconst 1, 1, []), (.iadd, 1, []), (.aload_n 0, 1, []), (.getfield 12, 3, [5, 0, 544, 0]), (.invokevirtual 94, 3, [24, 0, 980, 1, 4, 10]), (.iastore, 1, []), (.aload_n 1, 1, []), (.getfield 161, 3, [6, 10, 421, 1]), (.iconst 3, 1, []), (.iload_n 2, 1, []), (.imul, 1, []), (.iconst 1, 1, []), (.iadd, 1, []), (.iaload, 1, []), (.iconst 1, 1, []), (.if_icmp .le 12, 3, [74])]),
  (65, [(.aload_n 0, 1, []), (.getfield 12, 3, [5, 0, 544, 0]), (.iconst (-1), 1, []), (.iload_n 3, 1, []), (.invokevirtual 90, 3, [22, 2, 984, 1, 3, 10])]),
  (74, [(.aload_n 1, 1, []), (.getfield 161, 3, [6, 10, 421, 1]), (.iconst 3, 1, []), (.iload_n 2, 1, []), (.imul, 1, []), (.iconst 2, 1, []), (.iadd, 1, []), (.aload_n 0, 1, []), (.invokevirtual 164, 3, [53, 0, 1107, 0, 4, 5]), (.iastore, 1, []), (.aload_n 1, 1, []), (.getfield 167, 3, [6, 11, 424, 1]), (.iload_n 2, 1, []), (.aload_n 0, 1, []), (.aload_n 1, 1, []), (.getfield 161, 3, [6, 10, 421, 1]), (.iconst 3, 1, []), (.iload_n 2, 1, []), (.imul, 1, []), (.iconst 2, 1, []), (.iadd, 1, []), (.iaload, 1, []), (.invokevirtual 170, 3, [54, 1, 1112, 0, 5, 5]), (.lastore, 1, []), (.aload_n 1, 1, []), (.dup, 1, []), (.getfield 174, 3, [6, 9, 418, 1]), (.iconst 1, 1, []), (.iadd, 1, []), (.putfield 174, 3, [6, 9, 418, 1]), (.return_, 1, [])])]
set_option maxRecDepth 100000 in
theorem ok_ModuleReader_oneGlobal : fk_okM 52 B_ModuleReader_oneGlobal = true := by decide +kernel
abbrev C_ModuleReader_oneGlobal : fkC := [(74, [true, true, true, false])]
set_option maxRecDepth 100000 in
set_option maxHeartbeats 4000000 in
theorem S_ModuleReader_oneGlobal {d : Nat} {a1 : Int32} {σ : fkS} {Q : Option Value → fkS → Prop} 
  (h : (Di d 30 [.ref 46] σ (fun x2 σ1 =>
  (vp_in ((3 : Int32) * a1) 180 ∧
  (Di d 20 [.ref 46] (sI (sW σ1 σ) 30 (((3 : Int32) * a1).toNatClampNeg) x2) (fun x4 σ3 =>
  ((¬ x4 = 0 →
    (Di d 24 [.ref 46] (sW σ3 σ) (fun x6 σ5 =>
    (vp_in (((3 : Int32) * a1) + (1 : Int32)) 180 ∧
    (vp_in (((3 : Int32) * a1) + (1 : Int32)) 180 ∧
    ((((sI (sW σ5 σ) 30 ((((3 : Int32) * a1) + (1 : Int32)).toNatClampNeg) x6).1 30 ((((3 : Int32) * a1) + (1 : Int32)).toNatClampNeg)) ≤ (1 : Int32) →
      Wq 52 (d + 1) 74 [some (.ref 45), some (.ref 24), some (.int a1), none] [] (sI (sW σ5 σ) 30 ((((3 : Int32) * a1) + (1 : Int32)).toNatClampNeg) x6) Q) ∧
     (¬ ((sI (sW σ5 σ) 30 ((((3 : Int32) * a1) + (1 : Int32)).toNatClampNeg) x6).1 30 ((((3 : Int32) * a1) + (1 : Int32)).toNatClampNeg)) ≤ (1 : Int32) →
      (Dv d 22 [.ref 46, .int (-1 : Int32), .int ((sW σ3 σ).1 46 1)] (sI (sW σ5 σ) 30 ((((3 : Int32) * a1) + (1 : Int32)).toNatClampNeg) x6) (fun σ7 =>
      Wq 52 (d + 1) 74 [some (.ref 45), some (.ref 24), some (.int a1), none] [] (sW σ7 σ) Q))))))))) ∧
   (x4 = 0 →
    Q none (sW σ3 σ))))))))) :
  Cl (d + 1) 52 [.ref 45, .ref 24, .int a1] σ Q := by
  exact Cl.run B_ModuleReader_oneGlobal C_ModuleReader_oneGlobal 8 fk_q52 ok_ModuleReader_oneGlobal rfl h
set_option maxRecDepth 100000 in
set_option maxHeartbeats 4000000 in
theorem S_ModuleReader_oneGlobal_74 {d : Nat} {v2 : Int32} {σ : fkS} {Q : Option Value → fkS → Prop} 
  (h : (Di d 53 [.ref 45] σ (fun x2 σ1 =>
  (vp_in (((3 : Int32) * v2) + (2 : Int32)) 180 ∧
  (vp_in (((3 : Int32) * v2) + (2 : Int32)) 180 ∧
  (Dj d 54 [.ref 45, .int ((sI (sW σ1 σ) 30 ((((3 : Int32) * v2) + (2 : Int32)).toNatClampNeg) x2).1 30 ((((3 : Int32) * v2) + (2 : Int32)).toNatClampNeg))] (sI (sW σ1 σ) 30 ((((3 : Int32) * v2) + (2 : Int32)).toNatClampNeg) x2) (fun x4 σ3 =>
  (vp_in v2 60 ∧
  Q none (sI (sL (sW σ3 σ) 31 v2.toNatClampNeg x4) 24 9 (((sW σ3 σ).1 24 9) + (1 : Int32))))))))))) :
  Wq 52 (d + 1) 74 [some (.ref 45), some (.ref 24), some (.int v2), none] [] σ Q := by
  exact fk_run_sound (B := B_ModuleReader_oneGlobal) (C := C_ModuleReader_oneGlobal) (n := 8) ok_ModuleReader_oneGlobal h
def B_ModuleReader_operator : fkB := [(0, [(.aload_n 0, 1, []), (.getfield 12, 3, [5, 0, 544, 0]), (.invokevirtual 48, 3, [20, 0, 964, 1, 4, 10]), (.ifCond .ne 5, 3, [12])]),
  (10, [(.iconst 0, 1, []), (.ireturn, 1, [])]),
  (12, [(.aload_n 0, 1, []), (.getfield 12, 3, [5, 0, 544, 0]), (.getfield 60, 3, [10, 1, 511, 1]), (.istore_n 1, 1, []), (.aload_n 0, 1, []), (.getfield 12, 3, [5, 0, 544, 0]), (.invokevirtual 94, 3, [24, 0, 980, 1, 4, 10]), (.istore_n 2, 1, []), (.iload_n 2, 1, []), (.invokestatic 177, 3, [37, 1, 1111, 1, 4]), (.ifCond .eq 16, 3, [48])]),
  (35, [(.aload_n 0, 1, []), (.getfield 12, 3, [5, 0, 544, 0]), (.bipush (-2), 2, []), (.iload_n 1, 1, []), (.invokevirtual 90, 3, [22, 2, 984, 1, 3, 10]), (.goto 30, 3, [75])]),
  (48, [(.iload_n 2, 1, []), (.bipush 65, 2, []), (.if_icmp .eq 24, 3, [75])]),
  (54, [(.iload_n 2, 1, []), (.bipush 66, 2, []), (.if_icmp .eq 18, 3, [75])]),
  (60, [(.iload_n 2, 1, []), (.bipush 35, 2, []), (.if_icmp .eq 12, 3, [75])]),
  (66, [(.aload_n 0, 1, []), (.getfield 12, 3, [5, 0, 544, 0]), (.iconst (-1), 1, []), (.iload_n 1, 1, []), (.invokevirtual 90, 3, [22, 2, 984, 1, 3, 10])]),
  (75, [(.iload_n 2, 1, []), (.ireturn, 1, [])])]
set_option maxRecDepth 100000 in
theorem ok_ModuleReader_operator : fk_okM 53 B_ModuleReader_operator = true := by decide +kernel
abbrev C_ModuleReader_operator : fkC := []
set_option maxRecDepth 100000 in
set_option maxHeartbeats 4000000 in
theorem S_ModuleReader_operator {d : Nat}  {σ : fkS} {Q : Option Value → fkS → Prop} 
  (h : (Di d 20 [.ref 46] σ (fun x2 σ1 =>
  ((¬ x2 = 0 →
    (Di d 24 [.ref 46] (sW σ1 σ) (fun x4 σ3 =>
    (Di d 37 [.int x4] (sW σ3 σ) (fun x6 σ5 =>
    ((x6 = 0 →
      ((x4 = (65 : Int32) →
        Q (some (.int x4)) (sW σ5 σ)) ∧
       (¬ x4 = (65 : Int32) →
        ((x4 = (66 : Int32) →
          Q (some (.int x4)) (sW σ5 σ)) ∧
         (¬ x4 = (66 : Int32) →
          ((x4 = (35 : Int32) →
            Q (some (.int x4)) (sW σ5 σ)) ∧
           (¬ x4 = (35 : Int32) →
            (Dv d 22 [.ref 46, .int (-1 : Int32), .int ((sW σ1 σ).1 46 1)] (sW σ5 σ) (fun σ7 =>
            Q (some (.int x4)) (sW σ7 σ)))))))))) ∧
     (¬ x6 = 0 →
      (Dv d 22 [.ref 46, .int (-2 : Int32), .int ((sW σ1 σ).1 46 1)] (sW σ5 σ) (fun σ8 =>
      Q (some (.int x4)) (sW σ8 σ)))))))))) ∧
   (x2 = 0 →
    Q (some (.int (0 : Int32))) (sW σ1 σ)))))) :
  Cl (d + 1) 53 [.ref 45] σ Q := by
  exact Cl.run B_ModuleReader_operator C_ModuleReader_operator 12 fk_q53 ok_ModuleReader_operator rfl h
def B_ModuleReader_constant : fkB := [(0, [(.aload_n 0, 1, []), (.getfield 12, 3, [5, 0, 544, 0]), (.invokevirtual 48, 3, [20, 0, 964, 1, 4, 10]), (.ifCond .ne 5, 3, [12])]),
  (10, [(.lconst 0, 1, []), (.lreturn, 1, [])]),
  (12, [(.iload_n 1, 1, []), (.bipush 35, 2, []), (.if_icmp .ne 13, 3, [28])]),
  (18, [(.aload_n 0, 1, []), (.getfield 12, 3, [5, 0, 544, 0]), (.invokevirtual 120, 3, [26, 0, 1087, 1, 5, 10]), (.goto 23, 3, [48])]),
  (28, [(.aload_n 0, 1, []), (.getfield 12, 3, [5, 0, 544, 0]), (.iload_n 1, 1, []), (.bipush 65, 2, []), (.if_icmp .ne 8, 3, [43])]),
  (38, [(.bipush 32, 2, []), (.goto 5, 3, [45])]),
  (43, [(.bipush 64, 2, [])]),
  (45, [(.invokevirtual 181, 3, [43, 1, 1116, 1, 5, 10])]),
  (48, [(.lstore_n 2, 1, []), (.aload_n 0, 1, []), (.getfield 12, 3, [5, 0, 544, 0]), (.invokevirtual 48, 3, [20, 0, 964, 1, 4, 10]), (.ifCond .eq 12, 3, [68])]),
  (59, [(.aload_n 0, 1, []), (.getfield 12, 3, [5, 0, 544, 0]), (.bipush 11, 2, []), (.invokevirtual 52, 3, [21, 1, 968, 1, 3, 10])]),
  (68, [(.lload_n 2, 1, []), (.lreturn, 1, [])])]
set_option maxRecDepth 100000 in
theorem ok_ModuleReader_constant : fk_okM 54 B_ModuleReader_constant = true := by decide +kernel
abbrev C_ModuleReader_constant : fkC := []
set_option maxRecDepth 100000 in
set_option maxHeartbeats 4000000 in
theorem S_ModuleReader_constant {d : Nat} {a0 : Int32} {σ : fkS} {Q : Option Value → fkS → Prop} 
  (h : (Di d 20 [.ref 46] σ (fun x2 σ1 =>
  ((¬ x2 = 0 →
    ((¬ a0 = (35 : Int32) →
      ((¬ a0 = (65 : Int32) →
        (Dj d 43 [.ref 46, .int (64 : Int32)] (sW σ1 σ) (fun x4 σ3 =>
        (Di d 20 [.ref 46] (sW σ3 σ) (fun x6 σ5 =>
        ((x6 = 0 →
          Q (some (.long x4)) (sW σ5 σ)) ∧
         (¬ x6 = 0 →
          (Dv d 21 [.ref 46, .int (11 : Int32)] (sW σ5 σ) (fun σ7 =>
          Q (some (.long x4)) (sW σ7 σ)))))))))) ∧
       (a0 = (65 : Int32) →
        (Dj d 43 [.ref 46, .int (32 : Int32)] (sW σ1 σ) (fun x9 σ8 =>
        (Di d 20 [.ref 46] (sW σ8 σ) (fun x11 σ10 =>
        ((x11 = 0 →
          Q (some (.long x9)) (sW σ10 σ)) ∧
         (¬ x11 = 0 →
          (Dv d 21 [.ref 46, .int (11 : Int32)] (sW σ10 σ) (fun σ12 =>
          Q (some (.long x9)) (sW σ12 σ)))))))))))) ∧
     (a0 = (35 : Int32) →
      (Dj d 26 [.ref 46] (sW σ1 σ) (fun x14 σ13 =>
      (Di d 20 [.ref 46] (sW σ13 σ) (fun x16 σ15 =>
      ((x16 = 0 →
        Q (some (.long x14)) (sW σ15 σ)) ∧
       (¬ x16 = 0 →
        (Dv d 21 [.ref 46, .int (11 : Int32)] (sW σ15 σ) (fun σ17 =>
        Q (some (.long x14)) (sW σ17 σ)))))))))))) ∧
   (x2 = 0 →
    Q (some (.long (0 : Int64))) (sW σ1 σ)))))) :
  Cl (d + 1) 54 [.ref 45, .int a0] σ Q := by
  exact Cl.run B_ModuleReader_constant C_ModuleReader_constant 14 fk_q54 ok_ModuleReader_constant rfl h
def B_ModuleReader_oneExport : fkB := [(0, [(.iconst 4, 1, []), (.iload_n 2, 1, []), (.imul, 1, []), (.istore_n 3, 1, []), (.aload_n 0, 1, []), (.invokevirtual 100, 3, [48, 0, 1083, 0, 4, 5]), (.istore 4, 2, []), (.aload_n 1, 1, []), (.getfield 184, 3, [6, 13, 432, 1]), (.iload_n 3, 1, []), (.aload_n 0, 1, []), (.getfield 12, 3, [5, 0, 544, 0]), (.getfield 60, 3, [10, 1, 511, 1]), (.iload 4, 2, []), (.isub, 1, []), (.iastore, 1, []), (.aload_n 1, 1, []), (.getfield 184, 3, [6, 13, 432, 1]), (.iload_n 3, 1, []), (.iconst 1, 1, []), (.iadd, 1, []), (.iload 4, 2, []), (.iastore, 1, []), (.aload_n 0, 1, []), (.getfield 12, 3, [5, 0, 544, 0]), (.invokevirtual 48, 3, [20, 0, 964, 1, 4, 10]), (.ifCond .ne 4, 3, [47])]),
  (46, [(.return_, 1, [])]),
  (47, [(.aload_n 0, 1, []), (.getfield 12, 3, [5, 0, 544, 0]), (.getfield 60, 3, [10, 1, 511, 1]), (.istore 5, 2, []), (.aload_n 1, 1, []), (.getfield 184, 3, [6, 13, 432, 1]), (.iload_n 3, 1, []), (.iconst 2, 1, []), (.iadd, 1, []), (.aload_n 0, 1, []), (.getfield 12, 3, [5, 0, 544, 0]), (.invokevirtual 94, 3, [24, 0, 980, 1, 4, 10]), (.iastore, 1, []), (.aload_n 1, 1, []), (.getfield 184, 3, [6, 13, 432, 1]), (.iload_n 3, 1, []), (.iconst 2, 1, []), (.iadd, 1, []), (.iaload, 1, []), (.iconst 3, 1, []), (.if_icmp .le 13, 3, [93])]),
  (83, [(.aload_n 0, 1, []), (.getfield 12, 3, [5, 0, 544, 0]), (.iconst (-1), 1, []), (.iload 5, 2, []), (.invokevirtual 90, 3, [22, 2, 984, 1, 3, 10])]),
  (93, [(.aload_n 1, 1, []), (.getfield 184, 3, [6, 13, 432, 1]), (.iload_n 3, 1, []), (.iconst 3, 1, []), (.iadd, 1, []), (.aload_n 0, 1, []), (.getfield 12, 3, [5, 0, 544, 0]), (.invokevirtual 48, 3, [20, 0, 964, 1, 4, 10]), (.ifCond .eq 14, 3, [121])]),
  (110, [(.aload_n 0, 1, []), (.getfield 12, 3, [5, 0, 544, 0]), (.invokevirtual 120, 3, [26, 0, 1087, 1, 5, 10]), (.l2i, 1, []), (.goto 4, 3, [122])]),
  (121, [(.iconst 0, 1, [])]),
  (122, [(.iastore, 1, []), (.aload_n 1, 1, []), (.dup, 1, []), (.getfield 187, 3, [6, 12, 428, 1]), (.iconst 1, 1, []), (.iadd, 1, []), (.putfield 187, 3, [6, 12, 428, 1]), (.return_, 1, [])])]
set_option maxRecDepth 100000 in
theorem ok_ModuleReader_oneExport : fk_okM 55 B_ModuleReader_oneExport = true := by decide +kernel
abbrev C_ModuleReader_oneExport : fkC := [(93, [true, true, false, true, false, false])]
set_option maxRecDepth 100000 in
set_option maxHeartbeats 4000000 in
theorem S_ModuleReader_oneExport {d : Nat} {a1 : Int32} {σ : fkS} {Q : Option Value → fkS → Prop} 
  (h : (Di d 48 [.ref 45] σ (fun x2 σ1 =>
  (vp_in ((4 : Int32) * a1) 240 ∧
  (vp_in (((4 : Int32) * a1) + (1 : Int32)) 240 ∧
  (Di d 20 [.ref 46] (sI (sI (sW σ1 σ) 32 (((4 : Int32) * a1).toNatClampNeg) (((sW σ1 σ).1 46 1) - x2)) 32 ((((4 : Int32) * a1) + (1 : Int32)).toNatClampNeg) x2) (fun x4 σ3 =>
  ((¬ x4 = 0 →
    (Di d 24 [.ref 46] (sW σ3 σ) (fun x6 σ5 =>
    (vp_in (((4 : Int32) * a1) + (2 : Int32)) 240 ∧
    (vp_in (((4 : Int32) * a1) + (2 : Int32)) 240 ∧
    ((((sI (sW σ5 σ) 32 ((((4 : Int32) * a1) + (2 : Int32)).toNatClampNeg) x6).1 32 ((((4 : Int32) * a1) + (2 : Int32)).toNatClampNeg)) ≤ (3 : Int32) →
      Wq 55 (d + 1) 93 [some (.ref 45), some (.ref 24), none, some (.int ((4 : Int32) * a1)), none, none] [] (sI (sW σ5 σ) 32 ((((4 : Int32) * a1) + (2 : Int32)).toNatClampNeg) x6) Q) ∧
     (¬ ((sI (sW σ5 σ) 32 ((((4 : Int32) * a1) + (2 : Int32)).toNatClampNeg) x6).1 32 ((((4 : Int32) * a1) + (2 : Int32)).toNatClampNeg)) ≤ (3 : Int32) →
      (Dv d 22 [.ref 46, .int (-1 : Int32), .int ((sW σ3 σ).1 46 1)] (sI (sW σ5 σ) 32 ((((4 : Int32) * a1) + (2 : Int32)).toNatClampNeg) x6) (fun σ7 =>
      Wq 55 (d + 1) 93 [some (.ref 45), some (.ref 24), none, some (.int ((4 : Int32) * a1)), none, none] [] (sW σ7 σ) Q))))))))) ∧
   (x4 = 0 →
    Q none (sW σ3 σ)))))))))) :
  Cl (d + 1) 55 [.ref 45, .ref 24, .int a1] σ Q := by
  exact Cl.run B_ModuleReader_oneExport C_ModuleReader_oneExport 11 fk_q55 ok_ModuleReader_oneExport rfl h
set_option maxRecDepth 100000 in
set_option maxHeartbeats 4000000 in
theorem S_ModuleReader_oneExport_93 {d : Nat} {v3 : Int32} {σ : fkS} {Q : Option Value → fkS → Prop} 
  (h : (Di d 20 [.ref 46] σ (fun x2 σ1 =>
  ((x2 = 0 →
    (vp_in (v3 + (3 : Int32)) 240 ∧
    Q none (sI (sI (sW σ1 σ) 32 ((v3 + (3 : Int32)).toNatClampNeg) (0 : Int32)) 24 12 (((sW σ1 σ).1 24 12) + (1 : Int32))))) ∧
   (¬ x2 = 0 →
    (Dj d 26 [.ref 46] (sW σ1 σ) (fun x4 σ3 =>
    (vp_in (v3 + (3 : Int32)) 240 ∧
    Q none (sI (sI (sW σ3 σ) 32 ((v3 + (3 : Int32)).toNatClampNeg) x4.toInt32) 24 12 (((sW σ3 σ).1 24 12) + (1 : Int32))))))))))) :
  Wq 55 (d + 1) 93 [some (.ref 45), some (.ref 24), none, some (.int v3), none, none] [] σ Q := by
  exact fk_run_sound (B := B_ModuleReader_oneExport) (C := C_ModuleReader_oneExport) (n := 11) ok_ModuleReader_oneExport h
def B_ModuleReader_element : fkB := [(0, [(.iconst 3, 1, []), (.iload_n 2, 1, []), (.imul, 1, []), (.istore_n 3, 1, []), (.aload_n 0, 1, []), (.getfield 12, 3, [5, 0, 544, 0]), (.getfield 60, 3, [10, 1, 511, 1]), (.istore 4, 2, []), (.aload_n 0, 1, []), (.getfield 12, 3, [5, 0, 544, 0]), (.invokevirtual 120, 3, [26, 0, 1087, 1, 5, 10]), (.lconst 0, 1, []), (.lcmp, 1, []), (.ifCond .eq 13, 3, [35])]),
  (25, [(.aload_n 0, 1, []), (.getfield 12, 3, [5, 0, 544, 0]), (.iconst (-1), 1, []), (.iload 4, 2, []), (.invokevirtual 90, 3, [22, 2, 984, 1, 3, 10])]),
  (35, [(.aload_n 1, 1, []), (.getfield 190, 3, [6, 15, 440, 1]), (.iload_n 3, 1, []), (.aload_n 0, 1, []), (.invokevirtual 164, 3, [53, 0, 1107, 0, 4, 5]), (.iastore, 1, []), (.aload_n 1, 1, []), (.getfield 193, 3, [6, 16, 443, 1]), (.iload_n 2, 1, []), (.aload_n 0, 1, []), (.aload_n 1, 1, []), (.getfield 190, 3, [6, 15, 440, 1]), (.iload_n 3, 1, []), (.iaload, 1, []), (.invokevirtual 170, 3, [54, 1, 1112, 0, 5, 5]), (.lastore, 1, []), (.aload_n 0, 1, []), (.getfield 12, 3, [5, 0, 544, 0]), (.invokevirtual 48, 3, [20, 0, 964, 1, 4, 10]), (.ifCond .eq 13, 3, [81])]),
  (71, [(.aload_n 0, 1, []), (.getfield 12, 3, [5, 0, 544, 0]), (.invokevirtual 106, 3, [28, 0, 1088, 1, 4, 10]), (.goto 4, 3, [82])]),
  (81, [(.iconst 0, 1, [])]),
  (82, [(.istore 5, 2, []), (.aload_n 1, 1, []), (.getfield 190, 3, [6, 15, 440, 1]), (.iload_n 3, 1, []), (.iconst 1, 1, []), (.iadd, 1, []), (.aload_n 1, 1, []), (.getfield 196, 3, [6, 17, 446, 1]), (.iastore, 1, []), (.aload_n 1, 1, []), (.getfield 190, 3, [6, 15, 440, 1]), (.iload_n 3, 1, []), (.iconst 2, 1, []), (.iadd, 1, []), (.iload 5, 2, []), (.iastore, 1, []), (.iconst 0, 1, []), (.istore 6, 2, [])]),
  (109, [(.iload 6, 2, []), (.iload 5, 2, []), (.if_icmp .ge 56, 3, [169])]),
  (116, [(.aload_n 0, 1, []), (.getfield 12, 3, [5, 0, 544, 0]), (.invokevirtual 48, 3, [20, 0, 964, 1, 4, 10]), (.ifCond .eq 46, 3, [169])]),
  (126, [(.aload_n 1, 1, []), (.getfield 196, 3, [6, 17, 446, 1]), (.sipush 4000, 3, []), (.if_icmp .ge 36, 3, [169])]),
  (136, [(.aload_n 1, 1, []), (.getfield 199, 3, [6, 18, 450, 1]), (.aload_n 1, 1, []), (.getfield 196, 3, [6, 17, 446, 1]), (.aload_n 0, 1, []), (.getfield 12, 3, [5, 0, 544, 0]), (.invokevirtual 120, 3, [26, 0, 1087, 1, 5, 10]), (.l2i, 1, []), (.iastore, 1, []), (.aload_n 1, 1, []), (.dup, 1, []), (.getfield 196, 3, [6, 17, 446, 1]), (.iconst 1, 1, []), (.iadd, 1, []), (.putfield 196, 3, [6, 17, 446, 1]), (.iinc 6 1, 3, []), (.goto (-57), 3, [109])]),
  (169, [(.aload_n 1, 1, []), (.dup, 1, []), (.getfield 202, 3, [6, 14, 436, 1]), (.iconst 1, 1, []), (.iadd, 1, []), (.putfield 202, 3, [6, 14, 436, 1]), (.return_, 1, [])])]
set_option maxRecDepth 100000 in
theorem ok_ModuleReader_element : fk_okM 56 B_ModuleReader_element = true := by decide +kernel
abbrev C_ModuleReader_element : fkC := [(35, [true, true, true, true, false, false, false]), (82, [true, true, false, true, false, false, false]), (109, [true, true, false, false, false, true, true])]
set_option maxRecDepth 100000 in
set_option maxHeartbeats 4000000 in
theorem S_ModuleReader_element {d : Nat} {a1 : Int32} {σ : fkS} {Q : Option Value → fkS → Prop} 
  (h : (Dj d 26 [.ref 46] σ (fun x2 σ1 =>
  (((lg_cmp x2 (0 : Int64)) = 0 →
    Wq 56 (d + 1) 35 [some (.ref 45), some (.ref 24), some (.int a1), some (.int ((3 : Int32) * a1)), none, none, none] [] (sW σ1 σ) Q) ∧
   (¬ (lg_cmp x2 (0 : Int64)) = 0 →
    (Dv d 22 [.ref 46, .int (-1 : Int32), .int (σ.1 46 1)] (sW σ1 σ) (fun σ3 =>
    Wq 56 (d + 1) 35 [some (.ref 45), some (.ref 24), some (.int a1), some (.int ((3 : Int32) * a1)), none, none, none] [] (sW σ3 σ) Q))))))) :
  Cl (d + 1) 56 [.ref 45, .ref 24, .int a1] σ Q := by
  exact Cl.run B_ModuleReader_element C_ModuleReader_element 14 fk_q56 ok_ModuleReader_element rfl h
set_option maxRecDepth 100000 in
set_option maxHeartbeats 4000000 in
theorem S_ModuleReader_element_35 {d : Nat} {v2 : Int32} {v3 : Int32} {σ : fkS} {Q : Option Value → fkS → Prop} 
  (h : (Di d 53 [.ref 45] σ (fun x2 σ1 =>
  (vp_in v3 180 ∧
  (vp_in v3 180 ∧
  (Dj d 54 [.ref 45, .int ((sI (sW σ1 σ) 33 v3.toNatClampNeg x2).1 33 v3.toNatClampNeg)] (sI (sW σ1 σ) 33 v3.toNatClampNeg x2) (fun x4 σ3 =>
  (vp_in v2 60 ∧
  (Di d 20 [.ref 46] (sL (sW σ3 σ) 34 v2.toNatClampNeg x4) (fun x6 σ5 =>
  ((x6 = 0 →
    Wq 56 (d + 1) 82 [some (.ref 45), some (.ref 24), none, some (.int v3), none, none, none] [.int (0 : Int32)] (sW σ5 σ) Q) ∧
   (¬ x6 = 0 →
    (Di d 28 [.ref 46] (sW σ5 σ) (fun x8 σ7 =>
    Wq 56 (d + 1) 82 [some (.ref 45), some (.ref 24), none, some (.int v3), none, none, none] [.int x8] (sW σ7 σ) Q)))))))))))))) :
  Wq 56 (d + 1) 35 [some (.ref 45), some (.ref 24), some (.int v2), some (.int v3), none, none, none] [] σ Q := by
  exact fk_run_sound (B := B_ModuleReader_element) (C := C_ModuleReader_element) (n := 14) ok_ModuleReader_element h
set_option maxRecDepth 100000 in
set_option maxHeartbeats 4000000 in
theorem S_ModuleReader_element_82 {d : Nat} {v3 : Int32} {s0 : Int32} {σ : fkS} {Q : Option Value → fkS → Prop} 
  (h : (vp_in (v3 + (1 : Int32)) 180 ∧
  (vp_in (v3 + (2 : Int32)) 180 ∧
  Wq 56 (d + 1) 109 [some (.ref 45), some (.ref 24), none, none, none, some (.int s0), some (.int (0 : Int32))] [] (sI (sI σ 33 ((v3 + (1 : Int32)).toNatClampNeg) (σ.1 24 17)) 33 ((v3 + (2 : Int32)).toNatClampNeg) s0) Q))) :
  Wq 56 (d + 1) 82 [some (.ref 45), some (.ref 24), none, some (.int v3), none, none, none] [.int s0] σ Q := by
  exact fk_run_sound (B := B_ModuleReader_element) (C := C_ModuleReader_element) (n := 14) ok_ModuleReader_element h
set_option maxRecDepth 100000 in
set_option maxHeartbeats 4000000 in
theorem S_ModuleReader_element_109 {d : Nat} {v5 : Int32} {v6 : Int32} {σ : fkS} {Q : Option Value → fkS → Prop} 
  (h : ((v5 ≤ v6 →
    Q none (sI σ 24 14 ((σ.1 24 14) + (1 : Int32)))) ∧
   (¬ v5 ≤ v6 →
    (Di d 20 [.ref 46] σ (fun x2 σ1 =>
    ((x2 = 0 →
      Q none (sI (sW σ1 σ) 24 14 (((sW σ1 σ).1 24 14) + (1 : Int32)))) ∧
     (¬ x2 = 0 →
      (((4000 : Int32) ≤ ((sW σ1 σ).1 24 17) →
        Q none (sI (sW σ1 σ) 24 14 (((sW σ1 σ).1 24 14) + (1 : Int32)))) ∧
       (¬ (4000 : Int32) ≤ ((sW σ1 σ).1 24 17) →
        (Dj d 26 [.ref 46] (sW σ1 σ) (fun x4 σ3 =>
        (vp_in ((sW σ1 σ).1 24 17) 4000 ∧
        Wq 56 (d + 1) 109 [some (.ref 45), some (.ref 24), none, none, none, some (.int v5), some (.int (v6 + (1 : Int32)))] [] (sI (sI (sW σ3 σ) 35 (((sW σ1 σ).1 24 17).toNatClampNeg) x4.toInt32) 24 17 (((sW σ3 σ).1 24 17) + (1 : Int32))) Q)))))))))))) :
  Wq 56 (d + 1) 109 [some (.ref 45), some (.ref 24), none, none, none, some (.int v5), some (.int v6)] [] σ Q := by
  exact fk_run_sound (B := B_ModuleReader_element) (C := C_ModuleReader_element) (n := 14) ok_ModuleReader_element h
def B_ModuleRows_numberOf : fkB := [(0, [(.aload_n 0, 1, []), (.getfield 35, 3, [6, 13, 429, 0]), (.iconst 4, 1, []), (.iload_n 1, 1, []), (.imul, 1, []), (.iconst 3, 1, []), (.iadd, 1, []), (.iaload, 1, []), (.ireturn, 1, [])])]
set_option maxRecDepth 100000 in
theorem ok_ModuleRows_numberOf : fk_okM 62 B_ModuleRows_numberOf = true := by decide +kernel
abbrev C_ModuleRows_numberOf : fkC := []
set_option maxRecDepth 100000 in
set_option maxHeartbeats 4000000 in
theorem S_ModuleRows_numberOf {d : Nat} {a0 : Int32} {σ : fkS} {Q : Option Value → fkS → Prop} 
  (h : (vp_in (((4 : Int32) * a0) + (3 : Int32)) 240 ∧
  Q (some (.int (σ.1 11 ((((4 : Int32) * a0) + (3 : Int32)).toNatClampNeg)))) σ)) :
  Cl d 62 [.ref 3, .int a0] σ Q := by
  exact Cl.run B_ModuleRows_numberOf C_ModuleRows_numberOf 4 fk_q62 ok_ModuleRows_numberOf rfl h
def B_ModuleRows_numberOf_v1 : fkB := [(0, [(.aload_n 0, 1, []), (.getfield 35, 3, [6, 13, 429, 0]), (.iconst 4, 1, []), (.iload_n 1, 1, []), (.imul, 1, []), (.iconst 3, 1, []), (.iadd, 1, []), (.iaload, 1, []), (.ireturn, 1, [])])]
set_option maxRecDepth 100000 in
theorem ok_ModuleRows_numberOf_v1 : fk_okM 62 B_ModuleRows_numberOf_v1 = true := by decide +kernel
abbrev C_ModuleRows_numberOf_v1 : fkC := []
set_option maxRecDepth 100000 in
set_option maxHeartbeats 4000000 in
theorem S_ModuleRows_numberOf_v1 {d : Nat} {a0 : Int32} {σ : fkS} {Q : Option Value → fkS → Prop} 
  (h : (vp_in (((4 : Int32) * a0) + (3 : Int32)) 240 ∧
  Q (some (.int (σ.1 32 ((((4 : Int32) * a0) + (3 : Int32)).toNatClampNeg)))) σ)) :
  Cl d 62 [.ref 24, .int a0] σ Q := by
  exact Cl.run B_ModuleRows_numberOf_v1 C_ModuleRows_numberOf_v1 4 fk_q62 ok_ModuleRows_numberOf_v1 rfl h
def B_ModuleRows_kindOf : fkB := [(0, [(.aload_n 0, 1, []), (.getfield 35, 3, [6, 13, 429, 0]), (.iconst 4, 1, []), (.iload_n 1, 1, []), (.imul, 1, []), (.iconst 2, 1, []), (.iadd, 1, []), (.iaload, 1, []), (.ireturn, 1, [])])]
set_option maxRecDepth 100000 in
theorem ok_ModuleRows_kindOf : fk_okM 63 B_ModuleRows_kindOf = true := by decide +kernel
abbrev C_ModuleRows_kindOf : fkC := []
set_option maxRecDepth 100000 in
set_option maxHeartbeats 4000000 in
theorem S_ModuleRows_kindOf {d : Nat} {a0 : Int32} {σ : fkS} {Q : Option Value → fkS → Prop} 
  (h : (vp_in (((4 : Int32) * a0) + (2 : Int32)) 240 ∧
  Q (some (.int (σ.1 11 ((((4 : Int32) * a0) + (2 : Int32)).toNatClampNeg)))) σ)) :
  Cl d 63 [.ref 3, .int a0] σ Q := by
  exact Cl.run B_ModuleRows_kindOf C_ModuleRows_kindOf 4 fk_q63 ok_ModuleRows_kindOf rfl h
def B_ModuleRows_kindOf_v1 : fkB := [(0, [(.aload_n 0, 1, []), (.getfield 35, 3, [6, 13, 429, 0]), (.iconst 4, 1, []), (.iload_n 1, 1, []), (.imul, 1, []), (.iconst 2, 1, []), (.iadd, 1, []), (.iaload, 1, []), (.ireturn, 1, [])])]
set_option maxRecDepth 100000 in
theorem ok_ModuleRows_kindOf_v1 : fk_okM 63 B_ModuleRows_kindOf_v1 = true := by decide +kernel
abbrev C_ModuleRows_kindOf_v1 : fkC := []
set_option maxRecDepth 100000 in
set_option maxHeartbeats 4000000 in
theorem S_ModuleRows_kindOf_v1 {d : Nat} {a0 : Int32} {σ : fkS} {Q : Option Value → fkS → Prop} 
  (h : (vp_in (((4 : Int32) * a0) + (2 : Int32)) 240 ∧
  Q (some (.int (σ.1 32 ((((4 : Int32) * a0) + (2 : Int32)).toNatClampNeg)))) σ)) :
  Cl d 63 [.ref 24, .int a0] σ Q := by
  exact Cl.run B_ModuleRows_kindOf_v1 C_ModuleRows_kindOf_v1 4 fk_q63 ok_ModuleRows_kindOf_v1 rfl h
def B_ModuleRows_givenBy : fkB := [(0, [(.aload_n 0, 1, []), (.getfield 15, 3, [6, 2, 385, 0]), (.iconst 3, 1, []), (.iload_n 1, 1, []), (.imul, 1, []), (.iconst 2, 1, []), (.iadd, 1, []), (.iaload, 1, []), (.ireturn, 1, [])])]
set_option maxRecDepth 100000 in
theorem ok_ModuleRows_givenBy : fk_okM 68 B_ModuleRows_givenBy = true := by decide +kernel
abbrev C_ModuleRows_givenBy : fkC := []
set_option maxRecDepth 100000 in
set_option maxHeartbeats 4000000 in
theorem S_ModuleRows_givenBy {d : Nat} {a0 : Int32} {σ : fkS} {Q : Option Value → fkS → Prop} 
  (h : (vp_in (((3 : Int32) * a0) + (2 : Int32)) 180 ∧
  Q (some (.int (σ.1 5 ((((3 : Int32) * a0) + (2 : Int32)).toNatClampNeg)))) σ)) :
  Cl d 68 [.ref 3, .int a0] σ Q := by
  exact Cl.run B_ModuleRows_givenBy C_ModuleRows_givenBy 4 fk_q68 ok_ModuleRows_givenBy rfl h
def B_ModuleRows_givenBy_v1 : fkB := [(0, [(.aload_n 0, 1, []), (.getfield 15, 3, [6, 2, 385, 0]), (.iconst 3, 1, []), (.iload_n 1, 1, []), (.imul, 1, []), (.iconst 2, 1, []), (.iadd, 1, []), (.iaload, 1, []), (.ireturn, 1, [])])]
set_option maxRecDepth 100000 in
theorem ok_ModuleRows_givenBy_v1 : fk_okM 68 B_ModuleRows_givenBy_v1 = true := by decide +kernel
abbrev C_ModuleRows_givenBy_v1 : fkC := []
set_option maxRecDepth 100000 in
set_option maxHeartbeats 4000000 in
theorem S_ModuleRows_givenBy_v1 {d : Nat} {a0 : Int32} {σ : fkS} {Q : Option Value → fkS → Prop} 
  (h : (vp_in (((3 : Int32) * a0) + (2 : Int32)) 180 ∧
  Q (some (.int (σ.1 26 ((((3 : Int32) * a0) + (2 : Int32)).toNatClampNeg)))) σ)) :
  Cl d 68 [.ref 24, .int a0] σ Q := by
  exact Cl.run B_ModuleRows_givenBy_v1 C_ModuleRows_givenBy_v1 4 fk_q68 ok_ModuleRows_givenBy_v1 rfl h
def B_CodeRows_endOf : fkB := [(0, [(.aload_n 0, 1, []), (.getfield 32, 3, [2, 8, 341, 0]), (.iload_n 1, 1, []), (.iaload, 1, []), (.istore_n 2, 1, []), (.aload_n 0, 1, []), (.getfield 25, 3, [2, 6, 333, 0]), (.iload_n 2, 1, []), (.iaload, 1, []), (.iconst 5, 1, []), (.if_icmp .ne 12, 3, [26])]),
  (17, [(.aload_n 0, 1, []), (.getfield 32, 3, [2, 8, 341, 0]), (.iload_n 2, 1, []), (.iaload, 1, []), (.goto 4, 3, [27])]),
  (26, [(.iload_n 2, 1, [])]),
  (27, [(.ireturn, 1, [])])]
set_option maxRecDepth 100000 in
theorem ok_CodeRows_endOf : fk_okM 83 B_CodeRows_endOf = true := by decide +kernel
abbrev C_CodeRows_endOf : fkC := []
set_option maxRecDepth 100000 in
set_option maxHeartbeats 4000000 in
theorem S_CodeRows_endOf {d : Nat} {a0 : Int32} {σ : fkS} {Q : Option Value → fkS → Prop} 
  (h : (vp_in a0 4000 ∧
  (vp_in (σ.1 43 a0.toNatClampNeg) 4000 ∧
  ((¬ (σ.1 41 ((σ.1 43 a0.toNatClampNeg).toNatClampNeg)) = (5 : Int32) →
    Q (some (.int (σ.1 43 a0.toNatClampNeg))) σ) ∧
   ((σ.1 41 ((σ.1 43 a0.toNatClampNeg).toNatClampNeg)) = (5 : Int32) →
    (vp_in (σ.1 43 a0.toNatClampNeg) 4000 ∧
    Q (some (.int (σ.1 43 ((σ.1 43 a0.toNatClampNeg).toNatClampNeg)))) σ)))))) :
  Cl d 83 [.ref 36, .int a0] σ Q := by
  exact Cl.run B_CodeRows_endOf C_CodeRows_endOf 7 fk_q83 ok_CodeRows_endOf rfl h
def B_ModuleRows_argumentsOf : fkB := [(0, [(.aload_n 0, 1, []), (.getfield 15, 3, [6, 2, 385, 0]), (.iconst 3, 1, []), (.iload_n 1, 1, []), (.imul, 1, []), (.iconst 1, 1, []), (.iadd, 1, []), (.iaload, 1, []), (.ireturn, 1, [])])]
set_option maxRecDepth 100000 in
theorem ok_ModuleRows_argumentsOf : fk_okM 86 B_ModuleRows_argumentsOf = true := by decide +kernel
abbrev C_ModuleRows_argumentsOf : fkC := []
set_option maxRecDepth 100000 in
set_option maxHeartbeats 4000000 in
theorem S_ModuleRows_argumentsOf {d : Nat} {a0 : Int32} {σ : fkS} {Q : Option Value → fkS → Prop} 
  (h : (vp_in (((3 : Int32) * a0) + (1 : Int32)) 180 ∧
  Q (some (.int (σ.1 5 ((((3 : Int32) * a0) + (1 : Int32)).toNatClampNeg)))) σ)) :
  Cl d 86 [.ref 3, .int a0] σ Q := by
  exact Cl.run B_ModuleRows_argumentsOf C_ModuleRows_argumentsOf 4 fk_q86 ok_ModuleRows_argumentsOf rfl h
def B_ModuleRows_argumentsOf_v1 : fkB := [(0, [(.aload_n 0, 1, []), (.getfield 15, 3, [6, 2, 385, 0]), (.iconst 3, 1, []), (.iload_n 1, 1, []), (.imul, 1, []), (.iconst 1, 1, []), (.iadd, 1, []), (.iaload, 1, []), (.ireturn, 1, [])])]
set_option maxRecDepth 100000 in
theorem ok_ModuleRows_argumentsOf_v1 : fk_okM 86 B_ModuleRows_argumentsOf_v1 = true := by decide +kernel
abbrev C_ModuleRows_argumentsOf_v1 : fkC := []
set_option maxRecDepth 100000 in
set_option maxHeartbeats 4000000 in
theorem S_ModuleRows_argumentsOf_v1 {d : Nat} {a0 : Int32} {σ : fkS} {Q : Option Value → fkS → Prop} 
  (h : (vp_in (((3 : Int32) * a0) + (1 : Int32)) 180 ∧
  Q (some (.int (σ.1 26 ((((3 : Int32) * a0) + (1 : Int32)).toNatClampNeg)))) σ)) :
  Cl d 86 [.ref 24, .int a0] σ Q := by
  exact Cl.run B_ModuleRows_argumentsOf_v1 C_ModuleRows_argumentsOf_v1 4 fk_q86 ok_ModuleRows_argumentsOf_v1 rfl h
def B_ModuleRows_argumentType : fkB := [(0, [(.aload_n 0, 1, []), (.getfield 9, 3, [6, 0, 377, 0]), (.aload_n 0, 1, []), (.getfield 15, 3, [6, 2, 385, 0]), (.iconst 3, 1, []), (.iload_n 1, 1, []), (.imul, 1, []), (.iaload, 1, []), (.iload_n 2, 1, []), (.iadd, 1, []), (.baload, 1, []), (.ireturn, 1, [])])]
set_option maxRecDepth 100000 in
theorem ok_ModuleRows_argumentType : fk_okM 87 B_ModuleRows_argumentType = true := by decide +kernel
abbrev C_ModuleRows_argumentType : fkC := []
set_option maxRecDepth 100000 in
set_option maxHeartbeats 4000000 in
theorem S_ModuleRows_argumentType {d : Nat} {a0 : Int32} {a1 : Int32} {σ : fkS} {Q : Option Value → fkS → Prop} 
  (h : (vp_in ((3 : Int32) * a0) 180 ∧
  (vp_in ((σ.1 5 (((3 : Int32) * a0).toNatClampNeg)) + a1) 4000 ∧
  Q (some (.int (σ.1 4 (((σ.1 5 (((3 : Int32) * a0).toNatClampNeg)) + a1).toNatClampNeg)))) σ))) :
  Cl d 87 [.ref 3, .int a0, .int a1] σ Q := by
  exact Cl.run B_ModuleRows_argumentType C_ModuleRows_argumentType 4 fk_q87 ok_ModuleRows_argumentType rfl h
def B_ModuleRows_argumentType_v1 : fkB := [(0, [(.aload_n 0, 1, []), (.getfield 9, 3, [6, 0, 377, 0]), (.aload_n 0, 1, []), (.getfield 15, 3, [6, 2, 385, 0]), (.iconst 3, 1, []), (.iload_n 1, 1, []), (.imul, 1, []), (.iaload, 1, []), (.iload_n 2, 1, []), (.iadd, 1, []), (.baload, 1, []), (.ireturn, 1, [])])]
set_option maxRecDepth 100000 in
theorem ok_ModuleRows_argumentType_v1 : fk_okM 87 B_ModuleRows_argumentType_v1 = true := by decide +kernel
abbrev C_ModuleRows_argumentType_v1 : fkC := []
set_option maxRecDepth 100000 in
set_option maxHeartbeats 4000000 in
theorem S_ModuleRows_argumentType_v1 {d : Nat} {a0 : Int32} {a1 : Int32} {σ : fkS} {Q : Option Value → fkS → Prop} 
  (h : (vp_in ((3 : Int32) * a0) 180 ∧
  (vp_in ((σ.1 26 (((3 : Int32) * a0).toNatClampNeg)) + a1) 4000 ∧
  Q (some (.int (σ.1 25 (((σ.1 26 (((3 : Int32) * a0).toNatClampNeg)) + a1).toNatClampNeg)))) σ))) :
  Cl d 87 [.ref 24, .int a0, .int a1] σ Q := by
  exact Cl.run B_ModuleRows_argumentType_v1 C_ModuleRows_argumentType_v1 4 fk_q87 ok_ModuleRows_argumentType_v1 rfl h
def B_ModuleRows_sameTypes : fkB := [(0, [(.aload_n 0, 1, []), (.iload_n 1, 1, []), (.invokevirtual 88, 3, [86, 1, 1373, 0, 4, 6]), (.istore_n 3, 1, []), (.iload_n 3, 1, []), (.aload_n 0, 1, []), (.iload_n 2, 1, []), (.invokevirtual 88, 3, [86, 1, 1373, 0, 4, 6]), (.if_icmp .ne 16, 3, [28])]),
  (15, [(.aload_n 0, 1, []), (.iload_n 1, 1, []), (.invokevirtual 92, 3, [68, 1, 1374, 0, 4, 6]), (.aload_n 0, 1, []), (.iload_n 2, 1, []), (.invokevirtual 92, 3, [68, 1, 1374, 0, 4, 6]), (.if_icmp .eq 5, 3, [30])]),
  (28, [(.iconst 0, 1, []), (.ireturn, 1, [])]),
  (30, [(.iconst 0, 1, []), (.istore 4, 2, [])]),
  (33, [(.iload 4, 2, []), (.iload_n 3, 1, []), (.if_icmp .ge 28, 3, [64])]),
  (39, [(.aload_n 0, 1, []), (.iload_n 1, 1, []), (.iload 4, 2, []), (.invokevirtual 95, 3, [87, 2, 1375, 0, 4, 6]), (.aload_n 0, 1, []), (.iload_n 2, 1, []), (.iload 4, 2, []), (.invokevirtual 95, 3, [87, 2, 1375, 0, 4, 6]), (.if_icmp .eq 5, 3, [58])]),
  (56, [(.iconst 0, 1, []), (.ireturn, 1, [])]),
  (58, [(.iinc 4 1, 3, []), (.goto (-28), 3, [33])]),
  (64, [(.iconst 1, 1, []), (.ireturn, 1, [])])]
set_option maxRecDepth 100000 in
theorem ok_ModuleRows_sameTypes : fk_okM 116 B_ModuleRows_sameTypes = true := by decide +kernel
abbrev C_ModuleRows_sameTypes : fkC := [(33, [true, true, true, true, true])]
set_option maxRecDepth 100000 in
set_option maxHeartbeats 4000000 in
theorem S_ModuleRows_sameTypes {d : Nat} {a0 : Int32} {a1 : Int32} {σ : fkS} {Q : Option Value → fkS → Prop} 
  (h : (Di d 86 [.ref 3, .int a0] σ (fun x2 σ1 =>
  (Di d 86 [.ref 3, .int a1] (sW σ1 σ) (fun x4 σ3 =>
  ((¬ x2 = x4 →
    Q (some (.int (0 : Int32))) (sW σ3 σ)) ∧
   (x2 = x4 →
    (Di d 68 [.ref 3, .int a0] (sW σ3 σ) (fun x6 σ5 =>
    (Di d 68 [.ref 3, .int a1] (sW σ5 σ) (fun x8 σ7 =>
    ((x6 = x8 →
      Wq 116 (d + 1) 33 [some (.ref 3), some (.int a0), some (.int a1), some (.int x2), some (.int (0 : Int32))] [] (sW σ7 σ) Q) ∧
     (¬ x6 = x8 →
      Q (some (.int (0 : Int32))) (sW σ7 σ)))))))))))))) :
  Cl (d + 1) 116 [.ref 3, .int a0, .int a1] σ Q := by
  exact Cl.run B_ModuleRows_sameTypes C_ModuleRows_sameTypes 12 fk_q116 ok_ModuleRows_sameTypes rfl h
set_option maxRecDepth 100000 in
set_option maxHeartbeats 4000000 in
theorem S_ModuleRows_sameTypes_33 {d : Nat} {v1 : Int32} {v2 : Int32} {v3 : Int32} {v4 : Int32} {σ : fkS} {Q : Option Value → fkS → Prop} 
  (h : ((v3 ≤ v4 →
    Q (some (.int (1 : Int32))) σ) ∧
   (¬ v3 ≤ v4 →
    (Di d 87 [.ref 3, .int v1, .int v4] σ (fun x2 σ1 =>
    (Di d 87 [.ref 3, .int v2, .int v4] (sW σ1 σ) (fun x4 σ3 =>
    ((x2 = x4 →
      Wq 116 (d + 1) 33 [some (.ref 3), some (.int v1), some (.int v2), some (.int v3), some (.int (v4 + (1 : Int32)))] [] (sW σ3 σ) Q) ∧
     (¬ x2 = x4 →
      Q (some (.int (0 : Int32))) (sW σ3 σ)))))))))) :
  Wq 116 (d + 1) 33 [some (.ref 3), some (.int v1), some (.int v2), some (.int v3), some (.int v4)] [] σ Q := by
  exact fk_run_sound (B := B_ModuleRows_sameTypes) (C := C_ModuleRows_sameTypes) (n := 12) ok_ModuleRows_sameTypes h
