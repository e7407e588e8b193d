/-! THE WALKS of the methods as predicates, by program (wip/whole/gen/gen_S.py). Cells: wip/whole/gen/cells.py prints them. -/
-- not here: 
def B_M_program : fkB := [(0, [(.iload_n 1, 1, []), (.iconst 1, 1, []), (.if_icmp .lt 11, 3, [13])]),
  (5, [(.iload_n 1, 1, []), (.aload_n 0, 1, []), (.getfield 280, 3, [12, 1, 1878, 0]), (.if_icmp .le 5, 3, [15])]),
  (13, [(.iconst 0, 1, []), (.ireturn, 1, [])]),
  (15, [(.iconst 0, 1, []), (.istore_n 2, 1, [])]),
  (17, [(.iload_n 2, 1, []), (.iload_n 1, 1, []), (.if_icmp .ge 21, 3, [40])]),
  (22, [(.aload_n 0, 1, []), (.getfield 168, 3, [12, 78, 1955, 0]), (.iload_n 2, 1, []), (.aload_n 0, 1, []), (.getfield 9, 3, [12, 0, 1877, 0]), (.iload_n 2, 1, []), (.iaload, 1, []), (.iastore, 1, []), (.iinc 2 1, 3, []), (.goto (-20), 3, [17])]),
  (40, [(.aload_n 0, 1, []), (.iload_n 1, 1, []), (.putfield 630, 3, [12, 79, 1956, 0]), (.aload_n 0, 1, []), (.iconst 0, 1, []), (.putfield 280, 3, [12, 1, 1878, 0]), (.aload_n 0, 1, []), (.iconst 0, 1, []), (.putfield 633, 3, [12, 80, 1957, 0]), (.aload_n 0, 1, []), (.iconst (-1), 1, []), (.putfield 670, 3, [12, 81, 1958, 0]), (.aload_n 0, 1, []), (.iconst 0, 1, []), (.putfield 719, 3, [12, 97, 1974, 0]), (.aload_n 0, 1, []), (.iconst 0, 1, []), (.putfield 710, 3, [12, 111, 1988, 0]), (.aload_n 0, 1, []), (.iconst 0, 1, []), (.putfield 778, 3, [12, 112, 1989, 0]), (.aload_n 0, 1, []), (.iconst 0, 1, []), (.putfield 734, 3, [12, 113, 1990, 0]), (.aload_n 0, 1, []), (.iconst 0, 1, []), (.putfield 798, 3, [12, 118, 1995, 0]), (.aload_n 0, 1, []), (.invokevirtual 676, 3, [325, 0, 2660, 0, 0, 12]), (.aload_n 0, 1, []), (.invokevirtual 834, 3, [329, 0, 2679, 0, 0, 12])]),
  (93, [(.aload_n 0, 1, []), (.getfield 670, 3, [12, 81, 1958, 0]), (.ifCond .ge 37, 3, [134])]),
  (100, [(.aload_n 0, 1, []), (.getfield 645, 3, [12, 82, 1959, 0]), (.ifCond .eq 30, 3, [134])]),
  (107, [(.aload_n 0, 1, []), (.getfield 719, 3, [12, 97, 1974, 0]), (.bipush 20, 2, []), (.if_icmp .ne 14, 3, [127])]),
  (116, [(.aload_n 0, 1, []), (.aload_n 0, 1, []), (.getfield 639, 3, [12, 83, 1960, 0]), (.invokevirtual 679, 3, [332, 1, 2694, 0, 0, 12]), (.goto (-31), 3, [93])]),
  (127, [(.aload_n 0, 1, []), (.invokevirtual 834, 3, [329, 0, 2679, 0, 0, 12]), (.goto (-38), 3, [93])]),
  (134, [(.aload_n 0, 1, []), (.getfield 670, 3, [12, 81, 1958, 0]), (.ifCond .ge 7, 3, [145])]),
  (141, [(.aload_n 0, 1, []), (.invokevirtual 837, 3, [350, 0, 2780, 0, 0, 12])]),
  (145, [(.aload_n 0, 1, []), (.getfield 670, 3, [12, 81, 1958, 0]), (.ifCond .lt 10, 3, [159])]),
  (152, [(.iconst (-1), 1, []), (.aload_n 0, 1, []), (.getfield 670, 3, [12, 81, 1958, 0]), (.isub, 1, []), (.ireturn, 1, [])]),
  (159, [(.aload_n 0, 1, []), (.iconst 0, 1, []), (.putfield 825, 3, [12, 125, 2002, 0]), (.aload_n 0, 1, []), (.aload_n 0, 1, []), (.getfield 719, 3, [12, 97, 1974, 0]), (.putfield 840, 3, [12, 126, 2003, 0]), (.aload_n 0, 1, []), (.aload_n 0, 1, []), (.getfield 798, 3, [12, 118, 1995, 0]), (.putfield 843, 3, [12, 132, 2009, 0]), (.iconst 0, 1, []), (.istore_n 2, 1, [])]),
  (182, [(.iload_n 2, 1, []), (.aload_n 0, 1, []), (.getfield 719, 3, [12, 97, 1974, 0]), (.if_icmp .ge 134, 3, [321])]),
  (190, [(.aload_n 0, 1, []), (.iconst 0, 1, []), (.putfield 795, 3, [12, 117, 1994, 0]), (.aload_n 0, 1, []), (.getfield 255, 3, [12, 122, 1999, 0]), (.iload_n 2, 1, []), (.aload_n 0, 1, []), (.getfield 825, 3, [12, 125, 2002, 0]), (.iastore, 1, []), (.aload_n 0, 1, []), (.getfield 258, 3, [12, 123, 2000, 0]), (.iload_n 2, 1, []), (.aload_n 0, 1, []), (.getfield 177, 3, [12, 90, 1967, 0]), (.iload_n 2, 1, []), (.iaload, 1, []), (.iastore, 1, []), (.aload_n 0, 1, []), (.getfield 261, 3, [12, 124, 2001, 0]), (.iload_n 2, 1, []), (.aload_n 0, 1, []), (.getfield 180, 3, [12, 91, 1968, 0]), (.iload_n 2, 1, []), (.iaload, 1, []), (.iconst 1, 1, []), (.if_icmp .ne 7, 3, [236])]),
  (232, [(.iconst 1, 1, []), (.goto 4, 3, [237])]),
  (236, [(.iconst 0, 1, [])]),
  (237, [(.iastore, 1, []), (.iconst 4, 1, []), (.iload_n 2, 1, []), (.imul, 1, []), (.istore_n 3, 1, [])]),
  (242, [(.iload_n 3, 1, []), (.iconst 4, 1, []), (.iload_n 2, 1, []), (.imul, 1, []), (.aload_n 0, 1, []), (.getfield 177, 3, [12, 90, 1967, 0]), (.iload_n 2, 1, []), (.iaload, 1, []), (.iadd, 1, []), (.if_icmp .ge 43, 3, [296])]),
  (256, [(.aload_n 0, 1, []), (.aload_n 0, 1, []), (.getfield 189, 3, [12, 94, 1971, 0]), (.iload_n 3, 1, []), (.iaload, 1, []), (.aload_n 0, 1, []), (.getfield 192, 3, [12, 95, 1972, 0]), (.iload_n 3, 1, []), (.iaload, 1, []), (.iconst 0, 1, []), (.invokevirtual 822, 3, [354, 3, 2796, 0, 0, 12]), (.aload_n 0, 1, []), (.getfield 195, 3, [12, 96, 1973, 0]), (.iload_n 3, 1, []), (.iaload, 1, []), (.iconst 1, 1, []), (.if_icmp .eq 10, 3, [290])]),
  (283, [(.aload_n 0, 1, []), (.getfield 261, 3, [12, 124, 2001, 0]), (.iload_n 2, 1, []), (.iconst 0, 1, []), (.iastore, 1, [])]),
  (290, [(.iinc 3 1, 3, []), (.goto (-51), 3, [242])]),
  (296, [(.aload_n 0, 1, []), (.aload_n 0, 1, []), (.getfield 183, 3, [12, 92, 1969, 0]), (.iload_n 2, 1, []), (.iaload, 1, []), (.invokevirtual 831, 3, [360, 1, 2820, 0, 0, 12]), (.aload_n 0, 1, []), (.bipush 11, 2, []), (.iconst 0, 1, []), (.iconst 0, 1, []), (.invokevirtual 828, 3, [361, 3, 2824, 0, 1, 12]), (.istore_n 3, 1, []), (.iinc 2 1, 3, []), (.goto (-136), 3, [182])]),
  (321, [(.aload_n 0, 1, []), (.getfield 719, 3, [12, 97, 1974, 0]), (.ireturn, 1, [])])]
set_option maxRecDepth 100000 in
theorem ok_M_program : fk_okM 324 B_M_program = true := by decide +kernel
abbrev C_M_program : fkC := [(17, [true, true, true, false]), (93, [true, false, false, false]), (145, [true, false, false, false]), (182, [true, false, true, false]), (242, [true, false, true, true])]
set_option maxRecDepth 100000 in
set_option maxHeartbeats 4000000 in
theorem S_M_program {d : Nat} {a0 : Int32} {σ : fkS} {Q : Option Value → fkS → Prop} 
  (h : ((a0 < (1 : Int32) →
    Q (some (.int (0 : Int32))) σ) ∧
   (¬ a0 < (1 : Int32) →
    ((a0 ≤ (σ.1 103 1) →
      Wq 324 (d + 1) 17 [some (.ref 103), some (.int a0), some (.int (0 : Int32)), none] [] σ Q) ∧
     (¬ a0 ≤ (σ.1 103 1) →
      Q (some (.int (0 : Int32))) σ))))) :
  Cl (d + 1) 324 [.ref 103, .int a0] σ Q := by
  exact Cl.run B_M_program C_M_program 31 fk_q324 ok_M_program rfl h
set_option maxRecDepth 100000 in
set_option maxHeartbeats 4000000 in
theorem S_M_program_17 {d : Nat} {v1 : Int32} {v2 : Int32} {σ : fkS} {Q : Option Value → fkS → Prop} 
  (h : ((v1 ≤ v2 →
    (Cv d 325 [.ref 103] (sI (sI (sI (sI (sI (sI (sI (sI (sI σ 103 79 v1) 103 1 (0 : Int32)) 103 80 (0 : Int32)) 103 81 (-1 : Int32)) 103 97 (0 : Int32)) 103 111 (0 : Int32)) 103 112 (0 : Int32)) 103 113 (0 : Int32)) 103 118 (0 : Int32)) (fun σ1 =>
    (Cv d 329 [.ref 103] σ1 (fun σ2 =>
    Wq 324 (d + 1) 93 [some (.ref 103), none, none, none] [] σ2 Q))))) ∧
   (¬ v1 ≤ v2 →
    (vp_in v2 4000 ∧
    (vp_in v2 4000 ∧
    Wq 324 (d + 1) 17 [some (.ref 103), some (.int v1), some (.int (v2 + (1 : Int32))), none] [] (sI σ 154 v2.toNatClampNeg (σ.1 104 v2.toNatClampNeg)) Q))))) :
  Wq 324 (d + 1) 17 [some (.ref 103), some (.int v1), some (.int v2), none] [] σ Q := by
  exact fk_run_sound (B := B_M_program) (C := C_M_program) (n := 31) ok_M_program h
set_option maxRecDepth 100000 in
set_option maxHeartbeats 4000000 in
theorem S_M_program_93 {d : Nat}  {σ : fkS} {Q : Option Value → fkS → Prop} 
  (h : ((0 ≤ (σ.1 103 81) →
    ((0 ≤ (σ.1 103 81) →
      Wq 324 (d + 1) 145 [some (.ref 103), none, none, none] [] σ Q) ∧
     (¬ 0 ≤ (σ.1 103 81) →
      (Cv d 350 [.ref 103] σ (fun σ1 =>
      Wq 324 (d + 1) 145 [some (.ref 103), none, none, none] [] σ1 Q))))) ∧
   (¬ 0 ≤ (σ.1 103 81) →
    (((σ.1 103 82) = 0 →
      ((0 ≤ (σ.1 103 81) →
        Wq 324 (d + 1) 145 [some (.ref 103), none, none, none] [] σ Q) ∧
       (¬ 0 ≤ (σ.1 103 81) →
        (Cv d 350 [.ref 103] σ (fun σ2 =>
        Wq 324 (d + 1) 145 [some (.ref 103), none, none, none] [] σ2 Q))))) ∧
     (¬ (σ.1 103 82) = 0 →
      ((¬ (σ.1 103 97) = (20 : Int32) →
        (Cv d 329 [.ref 103] σ (fun σ3 =>
        Wq 324 (d + 1) 93 [some (.ref 103), none, none, none] [] σ3 Q))) ∧
       ((σ.1 103 97) = (20 : Int32) →
        (Cv d 332 [.ref 103, .int (σ.1 103 83)] σ (fun σ4 =>
        Wq 324 (d + 1) 93 [some (.ref 103), none, none, none] [] σ4 Q))))))))) :
  Wq 324 (d + 1) 93 [some (.ref 103), none, none, none] [] σ Q := by
  exact fk_run_sound (B := B_M_program) (C := C_M_program) (n := 31) ok_M_program h
set_option maxRecDepth 100000 in
set_option maxHeartbeats 4000000 in
theorem S_M_program_145 {d : Nat}  {σ : fkS} {Q : Option Value → fkS → Prop} 
  (h : (((σ.1 103 81) < 0 →
    Wq 324 (d + 1) 182 [some (.ref 103), none, some (.int (0 : Int32)), none] [] (sI (sI (sI σ 103 125 (0 : Int32)) 103 126 (σ.1 103 97)) 103 132 (σ.1 103 118)) Q) ∧
   (¬ (σ.1 103 81) < 0 →
    Q (some (.int ((-1 : Int32) - (σ.1 103 81)))) σ))) :
  Wq 324 (d + 1) 145 [some (.ref 103), none, none, none] [] σ Q := by
  exact fk_run_sound (B := B_M_program) (C := C_M_program) (n := 31) ok_M_program h
set_option maxRecDepth 100000 in
set_option maxHeartbeats 4000000 in
theorem S_M_program_182 {d : Nat} {v2 : Int32} {σ : fkS} {Q : Option Value → fkS → Prop} 
  (h : (((σ.1 103 97) ≤ v2 →
    Q (some (.int (σ.1 103 97))) σ) ∧
   (¬ (σ.1 103 97) ≤ v2 →
    (vp_in v2 20 ∧
    (vp_in v2 20 ∧
    (vp_in v2 20 ∧
    (vp_in v2 20 ∧
    ((¬ (σ.1 158 v2.toNatClampNeg) = (1 : Int32) →
      (vp_in v2 20 ∧
      Wq 324 (d + 1) 242 [some (.ref 103), none, some (.int v2), some (.int ((4 : Int32) * v2))] [] (sI (sI (sI (sI σ 103 117 (0 : Int32)) 183 v2.toNatClampNeg (σ.1 103 125)) 184 v2.toNatClampNeg (σ.1 157 v2.toNatClampNeg)) 185 v2.toNatClampNeg (0 : Int32)) Q)) ∧
     ((σ.1 158 v2.toNatClampNeg) = (1 : Int32) →
      (vp_in v2 20 ∧
      Wq 324 (d + 1) 242 [some (.ref 103), none, some (.int v2), some (.int ((4 : Int32) * v2))] [] (sI (sI (sI (sI σ 103 117 (0 : Int32)) 183 v2.toNatClampNeg (σ.1 103 125)) 184 v2.toNatClampNeg (σ.1 157 v2.toNatClampNeg)) 185 v2.toNatClampNeg (1 : Int32)) Q)))))))))) :
  Wq 324 (d + 1) 182 [some (.ref 103), none, some (.int v2), none] [] σ Q := by
  exact fk_run_sound (B := B_M_program) (C := C_M_program) (n := 31) ok_M_program h
set_option maxRecDepth 100000 in
set_option maxHeartbeats 4000000 in
theorem S_M_program_242 {d : Nat} {v2 : Int32} {v3 : Int32} {σ : fkS} {Q : Option Value → fkS → Prop} 
  (h : (vp_in v2 20 ∧
  (((((4 : Int32) * v2) + (σ.1 157 v2.toNatClampNeg)) ≤ v3 →
    (vp_in v2 20 ∧
    (Cv d 360 [.ref 103, .int (σ.1 159 v2.toNatClampNeg)] σ (fun σ1 =>
    (Ci d 361 [.ref 103, .int (11 : Int32), .int (0 : Int32), .int (0 : Int32)] σ1 (fun x3 σ2 =>
    Wq 324 (d + 1) 182 [some (.ref 103), none, some (.int (v2 + (1 : Int32))), none] [] σ2 Q)))))) ∧
   (¬ (((4 : Int32) * v2) + (σ.1 157 v2.toNatClampNeg)) ≤ v3 →
    (vp_in v3 80 ∧
    (vp_in v3 80 ∧
    (Cv d 354 [.ref 103, .int (σ.1 161 v3.toNatClampNeg), .int (σ.1 162 v3.toNatClampNeg), .int (0 : Int32)] σ (fun σ4 =>
    (vp_in v3 80 ∧
    (((σ4.1 163 v3.toNatClampNeg) = (1 : Int32) →
      Wq 324 (d + 1) 242 [some (.ref 103), none, some (.int v2), some (.int (v3 + (1 : Int32)))] [] σ4 Q) ∧
     (¬ (σ4.1 163 v3.toNatClampNeg) = (1 : Int32) →
      (vp_in v2 20 ∧
      Wq 324 (d + 1) 242 [some (.ref 103), none, some (.int v2), some (.int (v3 + (1 : Int32)))] [] (sI σ4 185 v2.toNatClampNeg (0 : Int32)) Q)))))))))))) :
  Wq 324 (d + 1) 242 [some (.ref 103), none, some (.int v2), some (.int v3)] [] σ Q := by
  exact fk_run_sound (B := B_M_program) (C := C_M_program) (n := 31) ok_M_program h
def B_M_byteAt : fkB := [(0, [(.iload_n 1, 1, []), (.aload_n 0, 1, []), (.getfield 630, 3, [12, 79, 1956, 0]), (.if_icmp .ge 12, 3, [17])]),
  (8, [(.aload_n 0, 1, []), (.getfield 168, 3, [12, 78, 1955, 0]), (.iload_n 1, 1, []), (.iaload, 1, []), (.goto 4, 3, [18])]),
  (17, [(.iconst (-1), 1, [])]),
  (18, [(.ireturn, 1, [])])]
set_option maxRecDepth 100000 in
theorem ok_M_byteAt : fk_okM 326 B_M_byteAt = true := by decide +kernel
abbrev C_M_byteAt : fkC := []
set_option maxRecDepth 100000 in
set_option maxHeartbeats 4000000 in
theorem S_M_byteAt {d : Nat} {a0 : Int32} {σ : fkS} {Q : Option Value → fkS → Prop} 
  (h : (((σ.1 103 79) ≤ a0 →
    Q (some (.int (-1 : Int32))) σ) ∧
   (¬ (σ.1 103 79) ≤ a0 →
    (vp_in a0 4000 ∧
    Q (some (.int (σ.1 154 a0.toNatClampNeg))) σ)))) :
  Cl d 326 [.ref 103, .int a0] σ Q := by
  exact Cl.run B_M_byteAt C_M_byteAt 7 fk_q326 ok_M_byteAt rfl h
def B_M_isLetter : fkB := [(0, [(.iload_n 0, 1, []), (.bipush 97, 2, []), (.if_icmp .lt 13, 3, [16])]),
  (6, [(.iload_n 0, 1, []), (.bipush 122, 2, []), (.if_icmp .gt 7, 3, [16])]),
  (12, [(.iconst 1, 1, []), (.goto 4, 3, [17])]),
  (16, [(.iconst 0, 1, [])]),
  (17, [(.ireturn, 1, [])])]
set_option maxRecDepth 100000 in
theorem ok_M_isLetter : fk_okM 327 B_M_isLetter = true := by decide +kernel
abbrev C_M_isLetter : fkC := []
set_option maxRecDepth 100000 in
set_option maxHeartbeats 4000000 in
theorem S_M_isLetter {d : Nat} {a0 : Int32} {σ : fkS} {Q : Option Value → fkS → Prop} 
  (h : ((a0 < (97 : Int32) →
    Q (some (.int (0 : Int32))) σ) ∧
   (¬ a0 < (97 : Int32) →
    (((122 : Int32) < a0 →
      Q (some (.int (0 : Int32))) σ) ∧
     (¬ (122 : Int32) < a0 →
      Q (some (.int (1 : Int32))) σ))))) :
  Cl d 327 [.int a0] σ Q := by
  exact Cl.run B_M_isLetter C_M_isLetter 8 fk_q327 ok_M_isLetter rfl h
def B_M_isDigit : fkB := [(0, [(.iload_n 0, 1, []), (.bipush 48, 2, []), (.if_icmp .lt 13, 3, [16])]),
  (6, [(.iload_n 0, 1, []), (.bipush 57, 2, []), (.if_icmp .gt 7, 3, [16])]),
  (12, [(.iconst 1, 1, []), (.goto 4, 3, [17])]),
  (16, [(.iconst 0, 1, [])]),
  (17, [(.ireturn, 1, [])])]
set_option maxRecDepth 100000 in
theorem ok_M_isDigit : fk_okM 328 B_M_isDigit = true := by decide +kernel
abbrev C_M_isDigit : fkC := []
set_option maxRecDepth 100000 in
set_option maxHeartbeats 4000000 in
theorem S_M_isDigit {d : Nat} {a0 : Int32} {σ : fkS} {Q : Option Value → fkS → Prop} 
  (h : ((a0 < (48 : Int32) →
    Q (some (.int (0 : Int32))) σ) ∧
   (¬ a0 < (48 : Int32) →
    (((57 : Int32) < a0 →
      Q (some (.int (0 : Int32))) σ) ∧
     (¬ (57 : Int32) < a0 →
      Q (some (.int (1 : Int32))) σ))))) :
  Cl d 328 [.int a0] σ Q := by
  exact Cl.run B_M_isDigit C_M_isDigit 8 fk_q328 ok_M_isDigit rfl h
def B_M_wrong : fkB := [(0, [(.aload_n 0, 1, []), (.getfield 670, 3, [12, 81, 1958, 0]), (.ifCond .ge 8, 3, [12])]),
  (7, [(.aload_n 0, 1, []), (.iload_n 1, 1, []), (.putfield 670, 3, [12, 81, 1958, 0])]),
  (12, [(.return_, 1, [])])]
set_option maxRecDepth 100000 in
theorem ok_M_wrong : fk_okM 332 B_M_wrong = true := by decide +kernel
abbrev C_M_wrong : fkC := []
set_option maxRecDepth 100000 in
set_option maxHeartbeats 4000000 in
theorem S_M_wrong {d : Nat} {a0 : Int32} {σ : fkS} {Q : Option Value → fkS → Prop} 
  (h : ((0 ≤ (σ.1 103 81) →
    Q none σ) ∧
   (¬ 0 ≤ (σ.1 103 81) →
    Q none (sI σ 103 81 a0)))) :
  Cl d 332 [.ref 103, .int a0] σ Q := by
  exact Cl.run B_M_wrong C_M_wrong 6 fk_q332 ok_M_wrong rfl h
def B_M_name : fkB := [(0, [(.aload_n 0, 1, []), (.aload_n 0, 1, []), (.getfield 639, 3, [12, 83, 1960, 0]), (.putfield 695, 3, [12, 86, 1963, 0]), (.aload_n 0, 1, []), (.aload_n 0, 1, []), (.getfield 654, 3, [12, 84, 1961, 0]), (.putfield 698, 3, [12, 87, 1964, 0]), (.aload_n 0, 1, []), (.invokevirtual 701, 3, [334, 0, 2702, 0, 1, 12]), (.ifCond .eq 10, 3, [30])]),
  (23, [(.aload_n 0, 1, []), (.invokevirtual 676, 3, [325, 0, 2660, 0, 0, 12]), (.goto 11, 3, [38])]),
  (30, [(.aload_n 0, 1, []), (.aload_n 0, 1, []), (.getfield 639, 3, [12, 83, 1960, 0]), (.invokevirtual 679, 3, [332, 1, 2694, 0, 0, 12])]),
  (38, [(.return_, 1, [])])]
set_option maxRecDepth 100000 in
theorem ok_M_name : fk_okM 333 B_M_name = true := by decide +kernel
abbrev C_M_name : fkC := []
set_option maxRecDepth 100000 in
set_option maxHeartbeats 4000000 in
theorem S_M_name {d : Nat}  {σ : fkS} {Q : Option Value → fkS → Prop} 
  (h : (Ci d 334 [.ref 103] (sI (sI σ 103 86 (σ.1 103 83)) 103 87 (σ.1 103 84)) (fun x2 σ1 =>
  ((x2 = 0 →
    (Cv d 332 [.ref 103, .int (σ1.1 103 83)] σ1 (fun σ3 =>
    Q none σ3))) ∧
   (¬ x2 = 0 →
    (Cv d 325 [.ref 103] σ1 (fun σ4 =>
    Q none σ4))))))) :
  Cl (d + 1) 333 [.ref 103] σ Q := by
  exact Cl.run B_M_name C_M_name 7 fk_q333 ok_M_name rfl h
def B_M_sign : fkB := [(0, [(.aload_n 0, 1, []), (.iload_n 1, 1, []), (.invokevirtual 673, 3, [336, 1, 2711, 0, 1, 12]), (.ifCond .eq 10, 3, [15])]),
  (8, [(.aload_n 0, 1, []), (.invokevirtual 676, 3, [325, 0, 2660, 0, 0, 12]), (.goto 11, 3, [23])]),
  (15, [(.aload_n 0, 1, []), (.aload_n 0, 1, []), (.getfield 639, 3, [12, 83, 1960, 0]), (.invokevirtual 679, 3, [332, 1, 2694, 0, 0, 12])]),
  (23, [(.return_, 1, [])])]
set_option maxRecDepth 100000 in
theorem ok_M_sign : fk_okM 335 B_M_sign = true := by decide +kernel
abbrev C_M_sign : fkC := []
set_option maxRecDepth 100000 in
set_option maxHeartbeats 4000000 in
theorem S_M_sign {d : Nat} {a0 : Int32} {σ : fkS} {Q : Option Value → fkS → Prop} 
  (h : (Ci d 336 [.ref 103, .int a0] σ (fun x2 σ1 =>
  ((x2 = 0 →
    (Cv d 332 [.ref 103, .int (σ1.1 103 83)] σ1 (fun σ3 =>
    Q none σ3))) ∧
   (¬ x2 = 0 →
    (Cv d 325 [.ref 103] σ1 (fun σ4 =>
    Q none σ4))))))) :
  Cl (d + 1) 335 [.ref 103, .int a0] σ Q := by
  exact Cl.run B_M_sign C_M_sign 7 fk_q335 ok_M_sign rfl h
def B_M_isSign : fkB := [(0, [(.aload_n 0, 1, []), (.getfield 670, 3, [12, 81, 1958, 0]), (.ifCond .ge 25, 3, [29])]),
  (7, [(.aload_n 0, 1, []), (.getfield 645, 3, [12, 82, 1959, 0]), (.iconst 3, 1, []), (.if_icmp .ne 17, 3, [29])]),
  (15, [(.aload_n 0, 1, []), (.getfield 642, 3, [12, 85, 1962, 0]), (.iload_n 1, 1, []), (.i2l, 1, []), (.lcmp, 1, []), (.ifCond .ne 7, 3, [29])]),
  (25, [(.iconst 1, 1, []), (.goto 4, 3, [30])]),
  (29, [(.iconst 0, 1, [])]),
  (30, [(.ireturn, 1, [])])]
set_option maxRecDepth 100000 in
theorem ok_M_isSign : fk_okM 336 B_M_isSign = true := by decide +kernel
abbrev C_M_isSign : fkC := []
set_option maxRecDepth 100000 in
set_option maxHeartbeats 4000000 in
theorem S_M_isSign {d : Nat} {a0 : Int32} {σ : fkS} {Q : Option Value → fkS → Prop} 
  (h : ((0 ≤ (σ.1 103 81) →
    Q (some (.int (0 : Int32))) σ) ∧
   (¬ 0 ≤ (σ.1 103 81) →
    ((¬ (σ.1 103 82) = (3 : Int32) →
      Q (some (.int (0 : Int32))) σ) ∧
     ((σ.1 103 82) = (3 : Int32) →
      ((¬ (lg_cmp (σ.2.1 103 85) a0.toInt64) = 0 →
        Q (some (.int (0 : Int32))) σ) ∧
       ((lg_cmp (σ.2.1 103 85) a0.toInt64) = 0 →
        Q (some (.int (1 : Int32))) σ))))))) :
  Cl d 336 [.ref 103, .int a0] σ Q := by
  exact Cl.run B_M_isSign C_M_isSign 9 fk_q336 ok_M_isSign rfl h
def B_M_node : fkB := [(0, [(.aload_n 0, 1, []), (.getfield 710, 3, [12, 111, 1988, 0]), (.istore_n 3, 1, []), (.aload_n 0, 1, []), (.getfield 198, 3, [12, 98, 1975, 0]), (.iload_n 3, 1, []), (.iload_n 1, 1, []), (.iastore, 1, []), (.aload_n 0, 1, []), (.getfield 201, 3, [12, 99, 1976, 0]), (.iload_n 3, 1, []), (.iload_n 2, 1, []), (.iastore, 1, []), (.aload_n 0, 1, []), (.getfield 204, 3, [12, 100, 1977, 0]), (.iload_n 3, 1, []), (.iconst (-1), 1, []), (.iastore, 1, []), (.aload_n 0, 1, []), (.getfield 207, 3, [12, 101, 1978, 0]), (.iload_n 3, 1, []), (.iconst (-1), 1, []), (.iastore, 1, []), (.aload_n 0, 1, []), (.getfield 210, 3, [12, 102, 1979, 0]), (.iload_n 3, 1, []), (.iconst (-1), 1, []), (.iastore, 1, []), (.aload_n 0, 1, []), (.getfield 234, 3, [12, 110, 1987, 0]), (.iload_n 3, 1, []), (.iconst 0, 1, []), (.iastore, 1, []), (.aload_n 0, 1, []), (.dup, 1, []), (.getfield 710, 3, [12, 111, 1988, 0]), (.iconst 1, 1, []), (.iadd, 1, []), (.putfield 710, 3, [12, 111, 1988, 0]), (.iload_n 3, 1, []), (.ireturn, 1, [])])]
set_option maxRecDepth 100000 in
theorem ok_M_node : fk_okM 340 B_M_node = true := by decide +kernel
abbrev C_M_node : fkC := []
set_option maxRecDepth 100000 in
set_option maxHeartbeats 4000000 in
theorem S_M_node {d : Nat} {a0 : Int32} {a1 : Int32} {σ : fkS} {Q : Option Value → fkS → Prop} 
  (h : (vp_in (σ.1 103 111) 3000 ∧
  (vp_in (σ.1 103 111) 3000 ∧
  (vp_in (σ.1 103 111) 3000 ∧
  (vp_in (σ.1 103 111) 3000 ∧
  (vp_in (σ.1 103 111) 3000 ∧
  (vp_in (σ.1 103 111) 3000 ∧
  Q (some (.int (σ.1 103 111))) (sI (sI (sI (sI (sI (sI (sI σ 164 ((σ.1 103 111).toNatClampNeg) a0) 165 ((σ.1 103 111).toNatClampNeg) a1) 166 ((σ.1 103 111).toNatClampNeg) (-1 : Int32)) 167 ((σ.1 103 111).toNatClampNeg) (-1 : Int32)) 168 ((σ.1 103 111).toNatClampNeg) (-1 : Int32)) 176 ((σ.1 103 111).toNatClampNeg) (0 : Int32)) 103 111 ((σ.1 103 111) + (1 : Int32)))))))))) :
  Cl d 340 [.ref 103, .int a0, .int a1] σ Q := by
  exact Cl.run B_M_node C_M_node 4 fk_q340 ok_M_node rfl h
def B_M_compare : fkB := [(0, [(.aload_n 0, 1, []), (.invokevirtual 765, 3, [344, 0, 2754, 0, 1, 12]), (.istore_n 2, 1, []), (.aload_n 0, 1, []), (.bipush 60, 2, []), (.invokevirtual 673, 3, [336, 1, 2711, 0, 1, 12]), (.ifCond .ne 14, 3, [25])]),
  (14, [(.aload_n 0, 1, []), (.bipush 69, 2, []), (.invokevirtual 673, 3, [336, 1, 2711, 0, 1, 12]), (.ifCond .ne 5, 3, [25])]),
  (23, [(.iload_n 2, 1, []), (.ireturn, 1, [])]),
  (25, [(.aload_n 0, 1, []), (.iload_n 1, 1, []), (.iload_n 2, 1, []), (.aload_n 0, 1, []), (.getfield 642, 3, [12, 85, 1962, 0]), (.l2i, 1, []), (.invokevirtual 768, 3, [349, 3, 2776, 0, 1, 12]), (.istore_n 3, 1, []), (.aload_n 0, 1, []), (.invokevirtual 676, 3, [325, 0, 2660, 0, 0, 12]), (.aload_n 0, 1, []), (.getfield 216, 3, [12, 104, 1981, 0]), (.iload_n 3, 1, []), (.aload_n 0, 1, []), (.getfield 639, 3, [12, 83, 1960, 0]), (.iastore, 1, []), (.aload_n 0, 1, []), (.getfield 207, 3, [12, 101, 1978, 0]), (.iload_n 3, 1, []), (.aload_n 0, 1, []), (.invokevirtual 765, 3, [344, 0, 2754, 0, 1, 12]), (.iastore, 1, []), (.iload_n 3, 1, []), (.ireturn, 1, [])])]
set_option maxRecDepth 100000 in
theorem ok_M_compare : fk_okM 343 B_M_compare = true := by decide +kernel
abbrev C_M_compare : fkC := [(25, [true, true, true, false])]
set_option maxRecDepth 100000 in
set_option maxHeartbeats 4000000 in
theorem S_M_compare {d : Nat} {a0 : Int32} {σ : fkS} {Q : Option Value → fkS → Prop} 
  (h : (Ci d 344 [.ref 103] σ (fun x2 σ1 =>
  (Ci d 336 [.ref 103, .int (60 : Int32)] σ1 (fun x4 σ3 =>
  ((¬ x4 = 0 →
    Wq 343 (d + 1) 25 [some (.ref 103), some (.int a0), some (.int x2), none] [] σ3 Q) ∧
   (x4 = 0 →
    (Ci d 336 [.ref 103, .int (69 : Int32)] σ3 (fun x6 σ5 =>
    ((¬ x6 = 0 →
      Wq 343 (d + 1) 25 [some (.ref 103), some (.int a0), some (.int x2), none] [] σ5 Q) ∧
     (x6 = 0 →
      Q (some (.int x2)) σ5))))))))))) :
  Cl (d + 1) 343 [.ref 103, .int a0] σ Q := by
  exact Cl.run B_M_compare C_M_compare 7 fk_q343 ok_M_compare rfl h
set_option maxRecDepth 100000 in
set_option maxHeartbeats 4000000 in
theorem S_M_compare_25 {d : Nat} {v1 : Int32} {v2 : Int32} {σ : fkS} {Q : Option Value → fkS → Prop} 
  (h : (Ci d 349 [.ref 103, .int v1, .int v2, .int ((σ.2.1 103 85).toInt32)] σ (fun x2 σ1 =>
  (Cv d 325 [.ref 103] σ1 (fun σ3 =>
  (vp_in x2 3000 ∧
  (Ci d 344 [.ref 103] (sI σ3 170 x2.toNatClampNeg (σ3.1 103 83)) (fun x5 σ4 =>
  (vp_in x2 3000 ∧
  Q (some (.int x2)) (sI σ4 167 x2.toNatClampNeg x5)))))))))) :
  Wq 343 (d + 1) 25 [some (.ref 103), some (.int v1), some (.int v2), none] [] σ Q := by
  exact fk_run_sound (B := B_M_compare) (C := C_M_compare) (n := 7) ok_M_compare h
def B_M_sum : fkB := [(0, [(.aload_n 0, 1, []), (.getfield 639, 3, [12, 83, 1960, 0]), (.istore_n 1, 1, []), (.aload_n 0, 1, []), (.invokevirtual 772, 3, [345, 0, 2758, 0, 1, 12]), (.istore_n 2, 1, [])]),
  (10, [(.aload_n 0, 1, []), (.bipush 43, 2, []), (.invokevirtual 673, 3, [336, 1, 2711, 0, 1, 12]), (.ifCond .ne 12, 3, [28])]),
  (19, [(.aload_n 0, 1, []), (.bipush 45, 2, []), (.invokevirtual 673, 3, [336, 1, 2711, 0, 1, 12]), (.ifCond .eq 44, 3, [69])]),
  (28, [(.aload_n 0, 1, []), (.iload_n 1, 1, []), (.iload_n 2, 1, []), (.aload_n 0, 1, []), (.getfield 642, 3, [12, 85, 1962, 0]), (.l2i, 1, []), (.invokevirtual 768, 3, [349, 3, 2776, 0, 1, 12]), (.istore_n 3, 1, []), (.aload_n 0, 1, []), (.invokevirtual 676, 3, [325, 0, 2660, 0, 0, 12]), (.aload_n 0, 1, []), (.getfield 216, 3, [12, 104, 1981, 0]), (.iload_n 3, 1, []), (.aload_n 0, 1, []), (.getfield 639, 3, [12, 83, 1960, 0]), (.iastore, 1, []), (.aload_n 0, 1, []), (.getfield 207, 3, [12, 101, 1978, 0]), (.iload_n 3, 1, []), (.aload_n 0, 1, []), (.invokevirtual 772, 3, [345, 0, 2758, 0, 1, 12]), (.iastore, 1, []), (.iload_n 3, 1, []), (.istore_n 2, 1, []), (.goto (-56), 3, [10])]),
  (69, [(.iload_n 2, 1, []), (.ireturn, 1, [])])]
set_option maxRecDepth 100000 in
theorem ok_M_sum : fk_okM 344 B_M_sum = true := by decide +kernel
abbrev C_M_sum : fkC := [(10, [true, true, true, false]), (28, [true, true, true, false])]
set_option maxRecDepth 100000 in
set_option maxHeartbeats 4000000 in
theorem S_M_sum {d : Nat}  {σ : fkS} {Q : Option Value → fkS → Prop} 
  (h : (Ci d 345 [.ref 103] σ (fun x2 σ1 =>
  Wq 344 (d + 1) 10 [some (.ref 103), some (.int (σ.1 103 83)), some (.int x2), none] [] σ1 Q))) :
  Cl (d + 1) 344 [.ref 103] σ Q := by
  exact Cl.run B_M_sum C_M_sum 8 fk_q344 ok_M_sum rfl h
set_option maxRecDepth 100000 in
set_option maxHeartbeats 4000000 in
theorem S_M_sum_10 {d : Nat} {v1 : Int32} {v2 : Int32} {σ : fkS} {Q : Option Value → fkS → Prop} 
  (h : (Ci d 336 [.ref 103, .int (43 : Int32)] σ (fun x2 σ1 =>
  ((¬ x2 = 0 →
    Wq 344 (d + 1) 28 [some (.ref 103), some (.int v1), some (.int v2), none] [] σ1 Q) ∧
   (x2 = 0 →
    (Ci d 336 [.ref 103, .int (45 : Int32)] σ1 (fun x4 σ3 =>
    ((x4 = 0 →
      Q (some (.int v2)) σ3) ∧
     (¬ x4 = 0 →
      Wq 344 (d + 1) 28 [some (.ref 103), some (.int v1), some (.int v2), none] [] σ3 Q))))))))) :
  Wq 344 (d + 1) 10 [some (.ref 103), some (.int v1), some (.int v2), none] [] σ Q := by
  exact fk_run_sound (B := B_M_sum) (C := C_M_sum) (n := 8) ok_M_sum h
set_option maxRecDepth 100000 in
set_option maxHeartbeats 4000000 in
theorem S_M_sum_28 {d : Nat} {v1 : Int32} {v2 : Int32} {σ : fkS} {Q : Option Value → fkS → Prop} 
  (h : (Ci d 349 [.ref 103, .int v1, .int v2, .int ((σ.2.1 103 85).toInt32)] σ (fun x2 σ1 =>
  (Cv d 325 [.ref 103] σ1 (fun σ3 =>
  (vp_in x2 3000 ∧
  (Ci d 345 [.ref 103] (sI σ3 170 x2.toNatClampNeg (σ3.1 103 83)) (fun x5 σ4 =>
  (vp_in x2 3000 ∧
  Wq 344 (d + 1) 10 [some (.ref 103), some (.int v1), some (.int x2), none] [] (sI σ4 167 x2.toNatClampNeg x5) Q))))))))) :
  Wq 344 (d + 1) 28 [some (.ref 103), some (.int v1), some (.int v2), none] [] σ Q := by
  exact fk_run_sound (B := B_M_sum) (C := C_M_sum) (n := 8) ok_M_sum h
def B_M_product : fkB := [(0, [(.aload_n 0, 1, []), (.getfield 639, 3, [12, 83, 1960, 0]), (.istore_n 1, 1, []), (.aload_n 0, 1, []), (.invokevirtual 775, 3, [346, 0, 2762, 0, 1, 12]), (.istore_n 2, 1, [])]),
  (10, [(.aload_n 0, 1, []), (.bipush 42, 2, []), (.invokevirtual 673, 3, [336, 1, 2711, 0, 1, 12]), (.ifCond .ne 21, 3, [37])]),
  (19, [(.aload_n 0, 1, []), (.bipush 47, 2, []), (.invokevirtual 673, 3, [336, 1, 2711, 0, 1, 12]), (.ifCond .ne 12, 3, [37])]),
  (28, [(.aload_n 0, 1, []), (.bipush 37, 2, []), (.invokevirtual 673, 3, [336, 1, 2711, 0, 1, 12]), (.ifCond .eq 44, 3, [78])]),
  (37, [(.aload_n 0, 1, []), (.iload_n 1, 1, []), (.iload_n 2, 1, []), (.aload_n 0, 1, []), (.getfield 642, 3, [12, 85, 1962, 0]), (.l2i, 1, []), (.invokevirtual 768, 3, [349, 3, 2776, 0, 1, 12]), (.istore_n 3, 1, []), (.aload_n 0, 1, []), (.invokevirtual 676, 3, [325, 0, 2660, 0, 0, 12]), (.aload_n 0, 1, []), (.getfield 216, 3, [12, 104, 1981, 0]), (.iload_n 3, 1, []), (.aload_n 0, 1, []), (.getfield 639, 3, [12, 83, 1960, 0]), (.iastore, 1, []), (.aload_n 0, 1, []), (.getfield 207, 3, [12, 101, 1978, 0]), (.iload_n 3, 1, []), (.aload_n 0, 1, []), (.invokevirtual 775, 3, [346, 0, 2762, 0, 1, 12]), (.iastore, 1, []), (.iload_n 3, 1, []), (.istore_n 2, 1, []), (.goto (-65), 3, [10])]),
  (78, [(.iload_n 2, 1, []), (.ireturn, 1, [])])]
set_option maxRecDepth 100000 in
theorem ok_M_product : fk_okM 345 B_M_product = true := by decide +kernel
abbrev C_M_product : fkC := [(10, [true, true, true, false]), (37, [true, true, true, false])]
set_option maxRecDepth 100000 in
set_option maxHeartbeats 4000000 in
theorem S_M_product {d : Nat}  {σ : fkS} {Q : Option Value → fkS → Prop} 
  (h : (Ci d 346 [.ref 103] σ (fun x2 σ1 =>
  Wq 345 (d + 1) 10 [some (.ref 103), some (.int (σ.1 103 83)), some (.int x2), none] [] σ1 Q))) :
  Cl (d + 1) 345 [.ref 103] σ Q := by
  exact Cl.run B_M_product C_M_product 9 fk_q345 ok_M_product rfl h
set_option maxRecDepth 100000 in
set_option maxHeartbeats 4000000 in
theorem S_M_product_10 {d : Nat} {v1 : Int32} {v2 : Int32} {σ : fkS} {Q : Option Value → fkS → Prop} 
  (h : (Ci d 336 [.ref 103, .int (42 : Int32)] σ (fun x2 σ1 =>
  ((¬ x2 = 0 →
    Wq 345 (d + 1) 37 [some (.ref 103), some (.int v1), some (.int v2), none] [] σ1 Q) ∧
   (x2 = 0 →
    (Ci d 336 [.ref 103, .int (47 : Int32)] σ1 (fun x4 σ3 =>
    ((¬ x4 = 0 →
      Wq 345 (d + 1) 37 [some (.ref 103), some (.int v1), some (.int v2), none] [] σ3 Q) ∧
     (x4 = 0 →
      (Ci d 336 [.ref 103, .int (37 : Int32)] σ3 (fun x6 σ5 =>
      ((x6 = 0 →
        Q (some (.int v2)) σ5) ∧
       (¬ x6 = 0 →
        Wq 345 (d + 1) 37 [some (.ref 103), some (.int v1), some (.int v2), none] [] σ5 Q))))))))))))) :
  Wq 345 (d + 1) 10 [some (.ref 103), some (.int v1), some (.int v2), none] [] σ Q := by
  exact fk_run_sound (B := B_M_product) (C := C_M_product) (n := 9) ok_M_product h
set_option maxRecDepth 100000 in
set_option maxHeartbeats 4000000 in
theorem S_M_product_37 {d : Nat} {v1 : Int32} {v2 : Int32} {σ : fkS} {Q : Option Value → fkS → Prop} 
  (h : (Ci d 349 [.ref 103, .int v1, .int v2, .int ((σ.2.1 103 85).toInt32)] σ (fun x2 σ1 =>
  (Cv d 325 [.ref 103] σ1 (fun σ3 =>
  (vp_in x2 3000 ∧
  (Ci d 346 [.ref 103] (sI σ3 170 x2.toNatClampNeg (σ3.1 103 83)) (fun x5 σ4 =>
  (vp_in x2 3000 ∧
  Wq 345 (d + 1) 10 [some (.ref 103), some (.int v1), some (.int x2), none] [] (sI σ4 167 x2.toNatClampNeg x5) Q))))))))) :
  Wq 345 (d + 1) 37 [some (.ref 103), some (.int v1), some (.int v2), none] [] σ Q := by
  exact fk_run_sound (B := B_M_product) (C := C_M_product) (n := 9) ok_M_product h
def B_M_atom : fkB := [(0, [(.iconst (-1), 1, []), (.istore_n 1, 1, []), (.iconst (-1), 1, []), (.istore_n 2, 1, [])]),
  (4, [(.aload_n 0, 1, []), (.bipush 45, 2, []), (.invokevirtual 673, 3, [336, 1, 2711, 0, 1, 12]), (.ifCond .eq 57, 3, [67])]),
  (13, [(.aload_n 0, 1, []), (.invokevirtual 781, 3, [347, 0, 2766, 0, 1, 12]), (.ifCond .ne 5, 3, [22])]),
  (20, [(.iconst 0, 1, []), (.ireturn, 1, [])]),
  (22, [(.aload_n 0, 1, []), (.iconst 1, 1, []), (.aload_n 0, 1, []), (.getfield 639, 3, [12, 83, 1960, 0]), (.invokevirtual 752, 3, [340, 2, 2731, 0, 1, 12]), (.istore_n 3, 1, []), (.aload_n 0, 1, []), (.invokevirtual 676, 3, [325, 0, 2660, 0, 0, 12]), (.aload_n 0, 1, []), (.getfield 213, 3, [12, 103, 1980, 0]), (.iload_n 3, 1, []), (.aload_n 0, 1, []), (.getfield 639, 3, [12, 83, 1960, 0]), (.iastore, 1, []), (.iload_n 2, 1, []), (.ifCond .ge 8, 3, [55])]),
  (50, [(.iload_n 3, 1, []), (.istore_n 1, 1, []), (.goto 10, 3, [62])]),
  (55, [(.aload_n 0, 1, []), (.getfield 204, 3, [12, 100, 1977, 0]), (.iload_n 2, 1, []), (.iload_n 3, 1, []), (.iastore, 1, [])]),
  (62, [(.iload_n 3, 1, []), (.istore_n 2, 1, []), (.goto (-60), 3, [4])]),
  (67, [(.aload_n 0, 1, []), (.invokevirtual 781, 3, [347, 0, 2766, 0, 1, 12]), (.ifCond .ne 5, 3, [76])]),
  (74, [(.iconst 0, 1, []), (.ireturn, 1, [])]),
  (76, [(.aload_n 0, 1, []), (.aload_n 0, 1, []), (.getfield 639, 3, [12, 83, 1960, 0]), (.invokevirtual 784, 3, [348, 1, 2770, 0, 1, 12]), (.istore_n 3, 1, []), (.iload_n 2, 1, []), (.ifCond .ge 5, 3, [91])]),
  (89, [(.iload_n 3, 1, []), (.ireturn, 1, [])]),
  (91, [(.aload_n 0, 1, []), (.getfield 204, 3, [12, 100, 1977, 0]), (.iload_n 2, 1, []), (.iload_n 3, 1, []), (.iastore, 1, []), (.iload_n 1, 1, []), (.ireturn, 1, [])])]
set_option maxRecDepth 100000 in
theorem ok_M_atom : fk_okM 346 B_M_atom = true := by decide +kernel
abbrev C_M_atom : fkC := [(4, [true, true, true, false])]
set_option maxRecDepth 100000 in
set_option maxHeartbeats 4000000 in
theorem S_M_atom {d : Nat}  {σ : fkS} {Q : Option Value → fkS → Prop} 
  (h : Wq 346 (d + 1) 4 [some (.ref 103), some (.int (-1 : Int32)), some (.int (-1 : Int32)), none] [] σ Q) :
  Cl (d + 1) 346 [.ref 103] σ Q := by
  exact Cl.run B_M_atom C_M_atom 16 fk_q346 ok_M_atom rfl h
set_option maxRecDepth 100000 in
set_option maxHeartbeats 4000000 in
theorem S_M_atom_4 {d : Nat} {v1 : Int32} {v2 : Int32} {σ : fkS} {Q : Option Value → fkS → Prop} 
  (h : (Ci d 336 [.ref 103, .int (45 : Int32)] σ (fun x2 σ1 =>
  ((x2 = 0 →
    (Ci d 347 [.ref 103] σ1 (fun x4 σ3 =>
    ((¬ x4 = 0 →
      (Ci d 348 [.ref 103, .int (σ3.1 103 83)] σ3 (fun x6 σ5 =>
      ((0 ≤ v2 →
        (vp_in v2 3000 ∧
        Q (some (.int v1)) (sI σ5 166 v2.toNatClampNeg x6))) ∧
       (¬ 0 ≤ v2 →
        Q (some (.int x6)) σ5))))) ∧
     (x4 = 0 →
      Q (some (.int (0 : Int32))) σ3))))) ∧
   (¬ x2 = 0 →
    (Ci d 347 [.ref 103] σ1 (fun x8 σ7 =>
    ((¬ x8 = 0 →
      (Ci d 340 [.ref 103, .int (1 : Int32), .int (σ7.1 103 83)] σ7 (fun x10 σ9 =>
      (Cv d 325 [.ref 103] σ9 (fun σ11 =>
      (vp_in x10 3000 ∧
      ((0 ≤ v2 →
        (vp_in v2 3000 ∧
        Wq 346 (d + 1) 4 [some (.ref 103), some (.int v1), some (.int x10), none] [] (sI (sI σ11 169 x10.toNatClampNeg (σ11.1 103 83)) 166 v2.toNatClampNeg x10) Q)) ∧
       (¬ 0 ≤ v2 →
        Wq 346 (d + 1) 4 [some (.ref 103), some (.int x10), some (.int x10), none] [] (sI σ11 169 x10.toNatClampNeg (σ11.1 103 83)) Q)))))))) ∧
     (x8 = 0 →
      Q (some (.int (0 : Int32))) σ7))))))))) :
  Wq 346 (d + 1) 4 [some (.ref 103), some (.int v1), some (.int v2), none] [] σ Q := by
  exact fk_run_sound (B := B_M_atom) (C := C_M_atom) (n := 16) ok_M_atom h
def B_M_isRoom : fkB := [(0, [(.aload_n 0, 1, []), (.getfield 670, 3, [12, 81, 1958, 0]), (.ifCond .ge 21, 3, [25])]),
  (7, [(.aload_n 0, 1, []), (.getfield 778, 3, [12, 112, 1989, 0]), (.sipush 400, 3, []), (.if_icmp .ne 11, 3, [25])]),
  (17, [(.aload_n 0, 1, []), (.aload_n 0, 1, []), (.getfield 639, 3, [12, 83, 1960, 0]), (.invokevirtual 679, 3, [332, 1, 2694, 0, 0, 12])]),
  (25, [(.aload_n 0, 1, []), (.dup, 1, []), (.getfield 778, 3, [12, 112, 1989, 0]), (.iconst 1, 1, []), (.iadd, 1, []), (.putfield 778, 3, [12, 112, 1989, 0]), (.aload_n 0, 1, []), (.getfield 670, 3, [12, 81, 1958, 0]), (.ifCond .ge 7, 3, [46])]),
  (42, [(.iconst 1, 1, []), (.goto 4, 3, [47])]),
  (46, [(.iconst 0, 1, [])]),
  (47, [(.ireturn, 1, [])])]
set_option maxRecDepth 100000 in
theorem ok_M_isRoom : fk_okM 347 B_M_isRoom = true := by decide +kernel
abbrev C_M_isRoom : fkC := []
set_option maxRecDepth 100000 in
set_option maxHeartbeats 4000000 in
theorem S_M_isRoom {d : Nat}  {σ : fkS} {Q : Option Value → fkS → Prop} 
  (h : ((0 ≤ (σ.1 103 81) →
    ((0 ≤ (σ.1 103 81) →
      Q (some (.int (0 : Int32))) (sI σ 103 112 ((σ.1 103 112) + (1 : Int32)))) ∧
     (¬ 0 ≤ (σ.1 103 81) →
      Q (some (.int (1 : Int32))) (sI σ 103 112 ((σ.1 103 112) + (1 : Int32)))))) ∧
   (¬ 0 ≤ (σ.1 103 81) →
    ((¬ (σ.1 103 112) = (400 : Int32) →
      ((0 ≤ (σ.1 103 81) →
        Q (some (.int (0 : Int32))) (sI σ 103 112 ((σ.1 103 112) + (1 : Int32)))) ∧
       (¬ 0 ≤ (σ.1 103 81) →
        Q (some (.int (1 : Int32))) (sI σ 103 112 ((σ.1 103 112) + (1 : Int32)))))) ∧
     ((σ.1 103 112) = (400 : Int32) →
      (Cv d 332 [.ref 103, .int (σ.1 103 83)] σ (fun σ1 =>
      ((0 ≤ (σ1.1 103 81) →
        Q (some (.int (0 : Int32))) (sI σ1 103 112 ((σ1.1 103 112) + (1 : Int32)))) ∧
       (¬ 0 ≤ (σ1.1 103 81) →
        Q (some (.int (1 : Int32))) (sI σ1 103 112 ((σ1.1 103 112) + (1 : Int32)))))))))))) :
  Cl (d + 1) 347 [.ref 103] σ Q := by
  exact Cl.run B_M_isRoom C_M_isRoom 10 fk_q347 ok_M_isRoom rfl h
def B_M_two : fkB := [(0, [(.aload_n 0, 1, []), (.bipush 11, 2, []), (.iload_n 1, 1, []), (.invokevirtual 752, 3, [340, 2, 2731, 0, 1, 12]), (.istore 4, 2, []), (.aload_n 0, 1, []), (.getfield 234, 3, [12, 110, 1987, 0]), (.iload 4, 2, []), (.iload_n 3, 1, []), (.iastore, 1, []), (.aload_n 0, 1, []), (.getfield 213, 3, [12, 103, 1980, 0]), (.iload 4, 2, []), (.iload_n 1, 1, []), (.iastore, 1, []), (.aload_n 0, 1, []), (.getfield 204, 3, [12, 100, 1977, 0]), (.iload 4, 2, []), (.iload_n 2, 1, []), (.iastore, 1, []), (.iload 4, 2, []), (.ireturn, 1, [])])]
set_option maxRecDepth 100000 in
theorem ok_M_two : fk_okM 349 B_M_two = true := by decide +kernel
abbrev C_M_two : fkC := []
set_option maxRecDepth 100000 in
set_option maxHeartbeats 4000000 in
theorem S_M_two {d : Nat} {a0 : Int32} {a1 : Int32} {a2 : Int32} {σ : fkS} {Q : Option Value → fkS → Prop} 
  (h : (Ci d 340 [.ref 103, .int (11 : Int32), .int a0] σ (fun x2 σ1 =>
  (vp_in x2 3000 ∧
  (vp_in x2 3000 ∧
  (vp_in x2 3000 ∧
  Q (some (.int x2)) (sI (sI (sI σ1 176 x2.toNatClampNeg a2) 169 x2.toNatClampNeg a0) 166 x2.toNatClampNeg a1))))))) :
  Cl (d + 1) 349 [.ref 103, .int a0, .int a1, .int a2] σ Q := by
  exact Cl.run B_M_two C_M_two 4 fk_q349 ok_M_two rfl h
def B_M_checks : fkB := [(0, [(.iconst 0, 1, []), (.istore_n 1, 1, [])]),
  (2, [(.iload_n 1, 1, []), (.aload_n 0, 1, []), (.getfield 719, 3, [12, 97, 1974, 0]), (.if_icmp .ge 165, 3, [172])]),
  (10, [(.iconst 0, 1, []), (.istore_n 2, 1, [])]),
  (12, [(.iload_n 2, 1, []), (.iload_n 1, 1, []), (.if_icmp .ge 50, 3, [64])]),
  (17, [(.aload_n 0, 1, []), (.aload_n 0, 1, []), (.getfield 171, 3, [12, 88, 1965, 0]), (.iload_n 1, 1, []), (.iaload, 1, []), (.aload_n 0, 1, []), (.getfield 174, 3, [12, 89, 1966, 0]), (.iload_n 1, 1, []), (.iaload, 1, []), (.aload_n 0, 1, []), (.getfield 171, 3, [12, 88, 1965, 0]), (.iload_n 2, 1, []), (.iaload, 1, []), (.aload_n 0, 1, []), (.getfield 174, 3, [12, 89, 1966, 0]), (.iload_n 2, 1, []), (.iaload, 1, []), (.invokevirtual 791, 3, [351, 4, 2784, 0, 1, 12]), (.ifCond .eq 13, 3, [58])]),
  (48, [(.aload_n 0, 1, []), (.aload_n 0, 1, []), (.getfield 171, 3, [12, 88, 1965, 0]), (.iload_n 1, 1, []), (.iaload, 1, []), (.invokevirtual 804, 3, [352, 1, 2788, 0, 0, 12])]),
  (58, [(.iinc 2 1, 3, []), (.goto (-49), 3, [12])]),
  (64, [(.aload_n 0, 1, []), (.iconst 0, 1, []), (.putfield 795, 3, [12, 117, 1994, 0]), (.iconst 4, 1, []), (.iload_n 1, 1, []), (.imul, 1, []), (.istore_n 2, 1, [])]),
  (73, [(.iload_n 2, 1, []), (.iconst 4, 1, []), (.iload_n 1, 1, []), (.imul, 1, []), (.aload_n 0, 1, []), (.getfield 177, 3, [12, 90, 1967, 0]), (.iload_n 1, 1, []), (.iaload, 1, []), (.iadd, 1, []), (.if_icmp .ge 60, 3, [144])]),
  (87, [(.aload_n 0, 1, []), (.aload_n 0, 1, []), (.getfield 189, 3, [12, 94, 1971, 0]), (.iload_n 2, 1, []), (.iaload, 1, []), (.aload_n 0, 1, []), (.getfield 192, 3, [12, 95, 1972, 0]), (.iload_n 2, 1, []), (.iaload, 1, []), (.invokevirtual 810, 3, [353, 2, 2792, 0, 1, 12]), (.ifCond .lt 13, 3, [116])]),
  (106, [(.aload_n 0, 1, []), (.aload_n 0, 1, []), (.getfield 189, 3, [12, 94, 1971, 0]), (.iload_n 2, 1, []), (.iaload, 1, []), (.invokevirtual 804, 3, [352, 1, 2788, 0, 0, 12])]),
  (116, [(.aload_n 0, 1, []), (.aload_n 0, 1, []), (.getfield 189, 3, [12, 94, 1971, 0]), (.iload_n 2, 1, []), (.iaload, 1, []), (.aload_n 0, 1, []), (.getfield 192, 3, [12, 95, 1972, 0]), (.iload_n 2, 1, []), (.iaload, 1, []), (.aload_n 0, 1, []), (.getfield 195, 3, [12, 96, 1973, 0]), (.iload_n 2, 1, []), (.iaload, 1, []), (.invokevirtual 822, 3, [354, 3, 2796, 0, 0, 12]), (.iinc 2 1, 3, []), (.goto (-68), 3, [73])]),
  (144, [(.aload_n 0, 1, []), (.aload_n 0, 1, []), (.getfield 183, 3, [12, 92, 1969, 0]), (.iload_n 1, 1, []), (.iaload, 1, []), (.aload_n 0, 1, []), (.getfield 186, 3, [12, 93, 1970, 0]), (.iload_n 1, 1, []), (.iaload, 1, []), (.aload_n 0, 1, []), (.getfield 180, 3, [12, 91, 1968, 0]), (.iload_n 1, 1, []), (.iaload, 1, []), (.invokevirtual 807, 3, [355, 3, 2800, 0, 0, 12]), (.iinc 1 1, 3, []), (.goto (-167), 3, [2])]),
  (172, [(.return_, 1, [])])]
set_option maxRecDepth 100000 in
theorem ok_M_checks : fk_okM 350 B_M_checks = true := by decide +kernel
abbrev C_M_checks : fkC := [(2, [true, true, false]), (12, [true, true, true]), (73, [true, true, true]), (116, [true, true, true])]
set_option maxRecDepth 100000 in
set_option maxHeartbeats 4000000 in
theorem S_M_checks {d : Nat}  {σ : fkS} {Q : Option Value → fkS → Prop} 
  (h : Wq 350 (d + 1) 2 [some (.ref 103), some (.int (0 : Int32)), none] [] σ Q) :
  Cl (d + 1) 350 [.ref 103] σ Q := by
  exact Cl.run B_M_checks C_M_checks 17 fk_q350 ok_M_checks rfl h
set_option maxRecDepth 100000 in
set_option maxHeartbeats 4000000 in
theorem S_M_checks_2 {d : Nat} {v1 : Int32} {σ : fkS} {Q : Option Value → fkS → Prop} 
  (h : (((σ.1 103 97) ≤ v1 →
    Q none σ) ∧
   (¬ (σ.1 103 97) ≤ v1 →
    Wq 350 (d + 1) 12 [some (.ref 103), some (.int v1), some (.int (0 : Int32))] [] σ Q))) :
  Wq 350 (d + 1) 2 [some (.ref 103), some (.int v1), none] [] σ Q := by
  exact fk_run_sound (B := B_M_checks) (C := C_M_checks) (n := 17) ok_M_checks h
set_option maxRecDepth 100000 in
set_option maxHeartbeats 4000000 in
theorem S_M_checks_12 {d : Nat} {v1 : Int32} {v2 : Int32} {σ : fkS} {Q : Option Value → fkS → Prop} 
  (h : ((v1 ≤ v2 →
    Wq 350 (d + 1) 73 [some (.ref 103), some (.int v1), some (.int ((4 : Int32) * v1))] [] (sI σ 103 117 (0 : Int32)) Q) ∧
   (¬ v1 ≤ v2 →
    (vp_in v1 20 ∧
    (vp_in v1 20 ∧
    (vp_in v2 20 ∧
    (vp_in v2 20 ∧
    (Ci d 351 [.ref 103, .int (σ.1 155 v1.toNatClampNeg), .int (σ.1 156 v1.toNatClampNeg), .int (σ.1 155 v2.toNatClampNeg), .int (σ.1 156 v2.toNatClampNeg)] σ (fun x2 σ1 =>
    ((x2 = 0 →
      Wq 350 (d + 1) 12 [some (.ref 103), some (.int v1), some (.int (v2 + (1 : Int32)))] [] σ1 Q) ∧
     (¬ x2 = 0 →
      (vp_in v1 20 ∧
      (Cv d 352 [.ref 103, .int (σ1.1 155 v1.toNatClampNeg)] σ1 (fun σ3 =>
      Wq 350 (d + 1) 12 [some (.ref 103), some (.int v1), some (.int (v2 + (1 : Int32)))] [] σ3 Q)))))))))))))) :
  Wq 350 (d + 1) 12 [some (.ref 103), some (.int v1), some (.int v2)] [] σ Q := by
  exact fk_run_sound (B := B_M_checks) (C := C_M_checks) (n := 17) ok_M_checks h
set_option maxRecDepth 100000 in
set_option maxHeartbeats 4000000 in
theorem S_M_checks_73 {d : Nat} {v1 : Int32} {v2 : Int32} {σ : fkS} {Q : Option Value → fkS → Prop} 
  (h : (vp_in v1 20 ∧
  (((((4 : Int32) * v1) + (σ.1 157 v1.toNatClampNeg)) ≤ v2 →
    (vp_in v1 20 ∧
    (vp_in v1 20 ∧
    (vp_in v1 20 ∧
    (Cv d 355 [.ref 103, .int (σ.1 159 v1.toNatClampNeg), .int (σ.1 160 v1.toNatClampNeg), .int (σ.1 158 v1.toNatClampNeg)] σ (fun σ1 =>
    Wq 350 (d + 1) 2 [some (.ref 103), some (.int (v1 + (1 : Int32))), none] [] σ1 Q)))))) ∧
   (¬ (((4 : Int32) * v1) + (σ.1 157 v1.toNatClampNeg)) ≤ v2 →
    (vp_in v2 80 ∧
    (vp_in v2 80 ∧
    (Ci d 353 [.ref 103, .int (σ.1 161 v2.toNatClampNeg), .int (σ.1 162 v2.toNatClampNeg)] σ (fun x3 σ2 =>
    ((x3 < 0 →
      Wq 350 (d + 1) 116 [some (.ref 103), some (.int v1), some (.int v2)] [] σ2 Q) ∧
     (¬ x3 < 0 →
      (vp_in v2 80 ∧
      (Cv d 352 [.ref 103, .int (σ2.1 161 v2.toNatClampNeg)] σ2 (fun σ4 =>
      Wq 350 (d + 1) 116 [some (.ref 103), some (.int v1), some (.int v2)] [] σ4 Q))))))))))))) :
  Wq 350 (d + 1) 73 [some (.ref 103), some (.int v1), some (.int v2)] [] σ Q := by
  exact fk_run_sound (B := B_M_checks) (C := C_M_checks) (n := 17) ok_M_checks h
set_option maxRecDepth 100000 in
set_option maxHeartbeats 4000000 in
theorem S_M_checks_116 {d : Nat} {v1 : Int32} {v2 : Int32} {σ : fkS} {Q : Option Value → fkS → Prop} 
  (h : (vp_in v2 80 ∧
  (vp_in v2 80 ∧
  (vp_in v2 80 ∧
  (Cv d 354 [.ref 103, .int (σ.1 161 v2.toNatClampNeg), .int (σ.1 162 v2.toNatClampNeg), .int (σ.1 163 v2.toNatClampNeg)] σ (fun σ1 =>
  Wq 350 (d + 1) 73 [some (.ref 103), some (.int v1), some (.int (v2 + (1 : Int32)))] [] σ1 Q)))))) :
  Wq 350 (d + 1) 116 [some (.ref 103), some (.int v1), some (.int v2)] [] σ Q := by
  exact fk_run_sound (B := B_M_checks) (C := C_M_checks) (n := 17) ok_M_checks h
def B_M_isAlikeText : fkB := [(0, [(.iload_n 2, 1, []), (.iload 4, 2, []), (.if_icmp .ne 7, 3, [10])]),
  (6, [(.iconst 1, 1, []), (.goto 4, 3, [11])]),
  (10, [(.iconst 0, 1, [])]),
  (11, [(.istore 5, 2, []), (.iconst 0, 1, []), (.istore 6, 2, [])]),
  (16, [(.iload 6, 2, []), (.iload_n 2, 1, []), (.if_icmp .ge 42, 3, [61])]),
  (22, [(.iload 5, 2, []), (.ifCond .eq 37, 3, [61])]),
  (27, [(.aload_n 0, 1, []), (.getfield 168, 3, [12, 78, 1955, 0]), (.iload_n 1, 1, []), (.iload 6, 2, []), (.iadd, 1, []), (.iaload, 1, []), (.aload_n 0, 1, []), (.getfield 168, 3, [12, 78, 1955, 0]), (.iload_n 3, 1, []), (.iload 6, 2, []), (.iadd, 1, []), (.iaload, 1, []), (.if_icmp .ne 7, 3, [52])]),
  (48, [(.iconst 1, 1, []), (.goto 4, 3, [53])]),
  (52, [(.iconst 0, 1, [])]),
  (53, [(.istore 5, 2, []), (.iinc 6 1, 3, []), (.goto (-42), 3, [16])]),
  (61, [(.iload 5, 2, []), (.ireturn, 1, [])])]
set_option maxRecDepth 100000 in
theorem ok_M_isAlikeText : fk_okM 351 B_M_isAlikeText = true := by decide +kernel
abbrev C_M_isAlikeText : fkC := [(16, [true, true, true, true, false, true, true])]
set_option maxRecDepth 100000 in
set_option maxHeartbeats 4000000 in
theorem S_M_isAlikeText {d : Nat} {a0 : Int32} {a1 : Int32} {a2 : Int32} {a3 : Int32} {σ : fkS} {Q : Option Value → fkS → Prop} 
  (h : ((¬ a1 = a3 →
    Wq 351 d 16 [some (.ref 103), some (.int a0), some (.int a1), some (.int a2), none, some (.int (0 : Int32)), some (.int (0 : Int32))] [] σ Q) ∧
   (a1 = a3 →
    Wq 351 d 16 [some (.ref 103), some (.int a0), some (.int a1), some (.int a2), none, some (.int (1 : Int32)), some (.int (0 : Int32))] [] σ Q))) :
  Cl d 351 [.ref 103, .int a0, .int a1, .int a2, .int a3] σ Q := by
  exact Cl.run B_M_isAlikeText C_M_isAlikeText 14 fk_q351 ok_M_isAlikeText rfl h
set_option maxRecDepth 100000 in
set_option maxHeartbeats 4000000 in
theorem S_M_isAlikeText_16 {d : Nat} {v1 : Int32} {v2 : Int32} {v3 : Int32} {v5 : Int32} {v6 : Int32} {σ : fkS} {Q : Option Value → fkS → Prop} 
  (h : ((v2 ≤ v6 →
    fk_bz v5 (Q (some (.int v5)) σ)) ∧
   (¬ v2 ≤ v6 →
    ((v5 = 0 →
      fk_bz v5 (Q (some (.int v5)) σ)) ∧
     (¬ v5 = 0 →
      (vp_in (v1 + v6) 4000 ∧
      (vp_in (v3 + v6) 4000 ∧
      ((¬ (σ.1 154 ((v1 + v6).toNatClampNeg)) = (σ.1 154 ((v3 + v6).toNatClampNeg)) →
        Wq 351 d 16 [some (.ref 103), some (.int v1), some (.int v2), some (.int v3), none, some (.int (0 : Int32)), some (.int (v6 + (1 : Int32)))] [] σ Q) ∧
       ((σ.1 154 ((v1 + v6).toNatClampNeg)) = (σ.1 154 ((v3 + v6).toNatClampNeg)) →
        Wq 351 d 16 [some (.ref 103), some (.int v1), some (.int v2), some (.int v3), none, some (.int (1 : Int32)), some (.int (v6 + (1 : Int32)))] [] σ Q))))))))) :
  Wq 351 d 16 [some (.ref 103), some (.int v1), some (.int v2), some (.int v3), none, some (.int v5), some (.int v6)] [] σ Q := by
  exact fk_run_sound (B := B_M_isAlikeText) (C := C_M_isAlikeText) (n := 14) ok_M_isAlikeText h
def B_M_faultAt : fkB := [(0, [(.aload_n 0, 1, []), (.getfield 670, 3, [12, 81, 1958, 0]), (.ifCond .lt 11, 3, [15])]),
  (7, [(.iload_n 1, 1, []), (.aload_n 0, 1, []), (.getfield 670, 3, [12, 81, 1958, 0]), (.if_icmp .ge 8, 3, [20])]),
  (15, [(.aload_n 0, 1, []), (.iload_n 1, 1, []), (.putfield 670, 3, [12, 81, 1958, 0])]),
  (20, [(.return_, 1, [])])]
set_option maxRecDepth 100000 in
theorem ok_M_faultAt : fk_okM 352 B_M_faultAt = true := by decide +kernel
abbrev C_M_faultAt : fkC := []
set_option maxRecDepth 100000 in
set_option maxHeartbeats 4000000 in
theorem S_M_faultAt {d : Nat} {a0 : Int32} {σ : fkS} {Q : Option Value → fkS → Prop} 
  (h : (((σ.1 103 81) < 0 →
    Q none (sI σ 103 81 a0)) ∧
   (¬ (σ.1 103 81) < 0 →
    (((σ.1 103 81) ≤ a0 →
      Q none σ) ∧
     (¬ (σ.1 103 81) ≤ a0 →
      Q none (sI σ 103 81 a0)))))) :
  Cl d 352 [.ref 103, .int a0] σ Q := by
  exact Cl.run B_M_faultAt C_M_faultAt 7 fk_q352 ok_M_faultAt rfl h
def B_M_placeOf : fkB := [(0, [(.aload_n 0, 1, []), (.getfield 795, 3, [12, 117, 1994, 0]), (.iconst 1, 1, []), (.isub, 1, []), (.istore_n 3, 1, [])]),
  (7, [(.iload_n 3, 1, []), (.ifCond .lt 30, 3, [38])]),
  (11, [(.aload_n 0, 1, []), (.aload_n 0, 1, []), (.getfield 237, 3, [12, 114, 1991, 0]), (.iload_n 3, 1, []), (.iaload, 1, []), (.aload_n 0, 1, []), (.getfield 240, 3, [12, 115, 1992, 0]), (.iload_n 3, 1, []), (.iaload, 1, []), (.iload_n 1, 1, []), (.iload_n 2, 1, []), (.invokevirtual 791, 3, [351, 4, 2784, 0, 1, 12]), (.ifCond .ne 9, 3, [38])]),
  (32, [(.iinc 3 (-1), 3, []), (.goto (-28), 3, [7])]),
  (38, [(.iload_n 3, 1, []), (.ireturn, 1, [])])]
set_option maxRecDepth 100000 in
theorem ok_M_placeOf : fk_okM 353 B_M_placeOf = true := by decide +kernel
abbrev C_M_placeOf : fkC := [(7, [true, true, true, true])]
set_option maxRecDepth 100000 in
set_option maxHeartbeats 4000000 in
theorem S_M_placeOf {d : Nat} {a0 : Int32} {a1 : Int32} {σ : fkS} {Q : Option Value → fkS → Prop} 
  (h : Wq 353 (d + 1) 7 [some (.ref 103), some (.int a0), some (.int a1), some (.int ((σ.1 103 117) - (1 : Int32)))] [] σ Q) :
  Cl (d + 1) 353 [.ref 103, .int a0, .int a1] σ Q := by
  exact Cl.run B_M_placeOf C_M_placeOf 8 fk_q353 ok_M_placeOf rfl h
set_option maxRecDepth 100000 in
set_option maxHeartbeats 4000000 in
theorem S_M_placeOf_7 {d : Nat} {v1 : Int32} {v2 : Int32} {v3 : Int32} {σ : fkS} {Q : Option Value → fkS → Prop} 
  (h : ((v3 < 0 →
    Q (some (.int v3)) σ) ∧
   (¬ v3 < 0 →
    (vp_in v3 3000 ∧
    (vp_in v3 3000 ∧
    (Ci d 351 [.ref 103, .int (σ.1 177 v3.toNatClampNeg), .int (σ.1 178 v3.toNatClampNeg), .int v1, .int v2] σ (fun x2 σ1 =>
    ((¬ x2 = 0 →
      Q (some (.int v3)) σ1) ∧
     (x2 = 0 →
      Wq 353 (d + 1) 7 [some (.ref 103), some (.int v1), some (.int v2), some (.int (v3 + (-1 : Int32)))] [] σ1 Q))))))))) :
  Wq 353 (d + 1) 7 [some (.ref 103), some (.int v1), some (.int v2), some (.int v3)] [] σ Q := by
  exact fk_run_sound (B := B_M_placeOf) (C := C_M_placeOf) (n := 8) ok_M_placeOf h
def B_M_binds : fkB := [(0, [(.aload_n 0, 1, []), (.getfield 237, 3, [12, 114, 1991, 0]), (.aload_n 0, 1, []), (.getfield 795, 3, [12, 117, 1994, 0]), (.iload_n 1, 1, []), (.iastore, 1, []), (.aload_n 0, 1, []), (.getfield 240, 3, [12, 115, 1992, 0]), (.aload_n 0, 1, []), (.getfield 795, 3, [12, 117, 1994, 0]), (.iload_n 2, 1, []), (.iastore, 1, []), (.aload_n 0, 1, []), (.getfield 243, 3, [12, 116, 1993, 0]), (.aload_n 0, 1, []), (.getfield 795, 3, [12, 117, 1994, 0]), (.iload_n 3, 1, []), (.iastore, 1, []), (.aload_n 0, 1, []), (.dup, 1, []), (.getfield 795, 3, [12, 117, 1994, 0]), (.iconst 1, 1, []), (.iadd, 1, []), (.putfield 795, 3, [12, 117, 1994, 0]), (.aload_n 0, 1, []), (.getfield 795, 3, [12, 117, 1994, 0]), (.aload_n 0, 1, []), (.getfield 798, 3, [12, 118, 1995, 0]), (.if_icmp .le 11, 3, [59])]),
  (51, [(.aload_n 0, 1, []), (.aload_n 0, 1, []), (.getfield 795, 3, [12, 117, 1994, 0]), (.putfield 798, 3, [12, 118, 1995, 0])]),
  (59, [(.return_, 1, [])])]
set_option maxRecDepth 100000 in
theorem ok_M_binds : fk_okM 354 B_M_binds = true := by decide +kernel
abbrev C_M_binds : fkC := []
set_option maxRecDepth 100000 in
set_option maxHeartbeats 4000000 in
theorem S_M_binds {d : Nat} {a0 : Int32} {a1 : Int32} {a2 : Int32} {σ : fkS} {Q : Option Value → fkS → Prop} 
  (h : (vp_in (σ.1 103 117) 3000 ∧
  (vp_in (σ.1 103 117) 3000 ∧
  (vp_in (σ.1 103 117) 3000 ∧
  ((((σ.1 103 117) + (1 : Int32)) ≤ (σ.1 103 118) →
    Q none (sI (sI (sI (sI σ 177 ((σ.1 103 117).toNatClampNeg) a0) 178 ((σ.1 103 117).toNatClampNeg) a1) 179 ((σ.1 103 117).toNatClampNeg) a2) 103 117 ((σ.1 103 117) + (1 : Int32)))) ∧
   (¬ ((σ.1 103 117) + (1 : Int32)) ≤ (σ.1 103 118) →
    Q none (sI (sI (sI (sI (sI σ 177 ((σ.1 103 117).toNatClampNeg) a0) 178 ((σ.1 103 117).toNatClampNeg) a1) 179 ((σ.1 103 117).toNatClampNeg) a2) 103 117 ((σ.1 103 117) + (1 : Int32))) 103 118 ((σ.1 103 117) + (1 : Int32))))))))) :
  Cl d 354 [.ref 103, .int a0, .int a1, .int a2] σ Q := by
  exact Cl.run B_M_binds C_M_binds 6 fk_q354 ok_M_binds rfl h
def B_M_expects : fkB := [(0, [(.aload_n 0, 1, []), (.iload_n 1, 1, []), (.invokevirtual 801, 3, [356, 1, 2804, 0, 1, 12]), (.istore 4, 2, []), (.iload 4, 2, []), (.ifCond .eq 18, 3, [27])]),
  (12, [(.iload_n 3, 1, []), (.ifCond .eq 14, 3, [27])]),
  (16, [(.iload 4, 2, []), (.iload_n 3, 1, []), (.if_icmp .eq 8, 3, [27])]),
  (22, [(.aload_n 0, 1, []), (.iload_n 2, 1, []), (.invokevirtual 804, 3, [352, 1, 2788, 0, 0, 12])]),
  (27, [(.return_, 1, [])])]
set_option maxRecDepth 100000 in
theorem ok_M_expects : fk_okM 355 B_M_expects = true := by decide +kernel
abbrev C_M_expects : fkC := []
set_option maxRecDepth 100000 in
set_option maxHeartbeats 4000000 in
theorem S_M_expects {d : Nat} {a0 : Int32} {a1 : Int32} {a2 : Int32} {σ : fkS} {Q : Option Value → fkS → Prop} 
  (h : (Ci d 356 [.ref 103, .int a0] σ (fun x2 σ1 =>
  ((x2 = 0 →
    Q none σ1) ∧
   (¬ x2 = 0 →
    ((a2 = 0 →
      Q none σ1) ∧
     (¬ a2 = 0 →
      ((x2 = a2 →
        Q none σ1) ∧
       (¬ x2 = a2 →
        (Cv d 352 [.ref 103, .int a1] σ1 (fun σ3 =>
        Q none σ3))))))))))) :
  Cl (d + 1) 355 [.ref 103, .int a0, .int a1, .int a2] σ Q := by
  exact Cl.run B_M_expects C_M_expects 8 fk_q355 ok_M_expects rfl h
def B_M_check : fkB := [(0, [(.aload_n 0, 1, []), (.getfield 198, 3, [12, 98, 1975, 0]), (.iload_n 1, 1, []), (.iaload, 1, []), (.tableswitch 458 0 10 #[58, 60, 79, 125, 131, 185, 187, 223, 259, 314, 364], 58, [464, 64, 66, 85, 131, 137, 191, 193, 229, 265, 320, 370])]),
  (64, [(.iconst 1, 1, []), (.ireturn, 1, [])]),
  (66, [(.aload_n 0, 1, []), (.aload_n 0, 1, []), (.getfield 204, 3, [12, 100, 1977, 0]), (.iload_n 1, 1, []), (.iaload, 1, []), (.aload_n 0, 1, []), (.getfield 213, 3, [12, 103, 1980, 0]), (.iload_n 1, 1, []), (.iaload, 1, []), (.iconst 1, 1, []), (.invokevirtual 807, 3, [355, 3, 2800, 0, 0, 12]), (.iconst 1, 1, []), (.ireturn, 1, [])]),
  (85, [(.aload_n 0, 1, []), (.aload_n 0, 1, []), (.getfield 222, 3, [12, 106, 1983, 0]), (.iload_n 1, 1, []), (.iaload, 1, []), (.aload_n 0, 1, []), (.getfield 225, 3, [12, 107, 1984, 0]), (.iload_n 1, 1, []), (.iaload, 1, []), (.invokevirtual 810, 3, [353, 2, 2792, 0, 1, 12]), (.istore_n 3, 1, []), (.iload_n 3, 1, []), (.ifCond .ge 13, 3, [116])]),
  (106, [(.aload_n 0, 1, []), (.aload_n 0, 1, []), (.getfield 222, 3, [12, 106, 1983, 0]), (.iload_n 1, 1, []), (.iaload, 1, []), (.invokevirtual 804, 3, [352, 1, 2788, 0, 0, 12])]),
  (116, [(.iload_n 3, 1, []), (.ifCond .ge 7, 3, [124])]),
  (120, [(.iconst 0, 1, []), (.goto 9, 3, [130])]),
  (124, [(.aload_n 0, 1, []), (.getfield 243, 3, [12, 116, 1993, 0]), (.iload_n 3, 1, []), (.iaload, 1, [])]),
  (130, [(.ireturn, 1, [])]),
  (131, [(.aload_n 0, 1, []), (.iload_n 1, 1, []), (.invokevirtual 813, 3, [357, 1, 2808, 0, 1, 12]), (.ireturn, 1, [])]),
  (137, [(.aload_n 0, 1, []), (.aload_n 0, 1, []), (.getfield 222, 3, [12, 106, 1983, 0]), (.iload_n 1, 1, []), (.iaload, 1, []), (.aload_n 0, 1, []), (.getfield 225, 3, [12, 107, 1984, 0]), (.iload_n 1, 1, []), (.iaload, 1, []), (.invokevirtual 816, 3, [358, 2, 2812, 0, 1, 12]), (.istore_n 2, 1, []), (.iload_n 2, 1, []), (.ifCond .ge 16, 3, [171])]),
  (158, [(.aload_n 0, 1, []), (.aload_n 0, 1, []), (.getfield 222, 3, [12, 106, 1983, 0]), (.iload_n 1, 1, []), (.iaload, 1, []), (.invokevirtual 804, 3, [352, 1, 2788, 0, 0, 12]), (.goto 21, 3, [189])]),
  (171, [(.aload_n 0, 1, []), (.iload_n 2, 1, []), (.invokevirtual 819, 3, [359, 1, 2816, 0, 1, 12]), (.ifCond .ne 13, 3, [189])]),
  (179, [(.aload_n 0, 1, []), (.aload_n 0, 1, []), (.getfield 201, 3, [12, 99, 1976, 0]), (.iload_n 1, 1, []), (.iaload, 1, []), (.invokevirtual 804, 3, [352, 1, 2788, 0, 0, 12])]),
  (189, [(.iconst 3, 1, []), (.ireturn, 1, [])]),
  (191, [(.iconst 2, 1, []), (.ireturn, 1, [])]),
  (193, [(.aload_n 0, 1, []), (.aload_n 0, 1, []), (.getfield 204, 3, [12, 100, 1977, 0]), (.iload_n 1, 1, []), (.iaload, 1, []), (.aload_n 0, 1, []), (.getfield 213, 3, [12, 103, 1980, 0]), (.iload_n 1, 1, []), (.iaload, 1, []), (.iconst 1, 1, []), (.invokevirtual 807, 3, [355, 3, 2800, 0, 0, 12]), (.aload_n 0, 1, []), (.aload_n 0, 1, []), (.getfield 207, 3, [12, 101, 1978, 0]), (.iload_n 1, 1, []), (.iaload, 1, []), (.aload_n 0, 1, []), (.getfield 216, 3, [12, 104, 1981, 0]), (.iload_n 1, 1, []), (.iaload, 1, []), (.iconst 2, 1, []), (.invokevirtual 807, 3, [355, 3, 2800, 0, 0, 12]), (.iconst 2, 1, []), (.ireturn, 1, [])]),
  (229, [(.aload_n 0, 1, []), (.aload_n 0, 1, []), (.getfield 204, 3, [12, 100, 1977, 0]), (.iload_n 1, 1, []), (.iaload, 1, []), (.aload_n 0, 1, []), (.getfield 213, 3, [12, 103, 1980, 0]), (.iload_n 1, 1, []), (.iaload, 1, []), (.iconst 3, 1, []), (.invokevirtual 807, 3, [355, 3, 2800, 0, 0, 12]), (.aload_n 0, 1, []), (.aload_n 0, 1, []), (.getfield 207, 3, [12, 101, 1978, 0]), (.iload_n 1, 1, []), (.iaload, 1, []), (.aload_n 0, 1, []), (.getfield 216, 3, [12, 104, 1981, 0]), (.iload_n 1, 1, []), (.iaload, 1, []), (.iconst 1, 1, []), (.invokevirtual 807, 3, [355, 3, 2800, 0, 0, 12]), (.iconst 1, 1, []), (.ireturn, 1, [])]),
  (265, [(.aload_n 0, 1, []), (.aload_n 0, 1, []), (.getfield 204, 3, [12, 100, 1977, 0]), (.iload_n 1, 1, []), (.iaload, 1, []), (.invokevirtual 801, 3, [356, 1, 2804, 0, 1, 12]), (.istore 4, 2, []), (.aload_n 0, 1, []), (.aload_n 0, 1, []), (.getfield 222, 3, [12, 106, 1983, 0]), (.iload_n 1, 1, []), (.iaload, 1, []), (.aload_n 0, 1, []), (.getfield 225, 3, [12, 107, 1984, 0]), (.iload_n 1, 1, []), (.iaload, 1, []), (.iload 4, 2, []), (.invokevirtual 822, 3, [354, 3, 2796, 0, 0, 12]), (.aload_n 0, 1, []), (.aload_n 0, 1, []), (.getfield 207, 3, [12, 101, 1978, 0]), (.iload_n 1, 1, []), (.iaload, 1, []), (.invokevirtual 801, 3, [356, 1, 2804, 0, 1, 12]), (.istore 5, 2, []), (.aload_n 0, 1, []), (.dup, 1, []), (.getfield 795, 3, [12, 117, 1994, 0]), (.iconst 1, 1, []), (.isub, 1, []), (.putfield 795, 3, [12, 117, 1994, 0]), (.iload 5, 2, []), (.ireturn, 1, [])]),
  (320, [(.aload_n 0, 1, []), (.aload_n 0, 1, []), (.getfield 204, 3, [12, 100, 1977, 0]), (.iload_n 1, 1, []), (.iaload, 1, []), (.aload_n 0, 1, []), (.getfield 213, 3, [12, 103, 1980, 0]), (.iload_n 1, 1, []), (.iaload, 1, []), (.iconst 1, 1, []), (.invokevirtual 807, 3, [355, 3, 2800, 0, 0, 12]), (.aload_n 0, 1, []), (.aload_n 0, 1, []), (.getfield 207, 3, [12, 101, 1978, 0]), (.iload_n 1, 1, []), (.iaload, 1, []), (.invokevirtual 801, 3, [356, 1, 2804, 0, 1, 12]), (.istore 6, 2, []), (.aload_n 0, 1, []), (.aload_n 0, 1, []), (.getfield 210, 3, [12, 102, 1979, 0]), (.iload_n 1, 1, []), (.iaload, 1, []), (.aload_n 0, 1, []), (.getfield 219, 3, [12, 105, 1982, 0]), (.iload_n 1, 1, []), (.iaload, 1, []), (.iload 6, 2, []), (.invokevirtual 807, 3, [355, 3, 2800, 0, 0, 12]), (.iload 6, 2, []), (.ireturn, 1, [])]),
  (370, [(.aload_n 0, 1, []), (.aload_n 0, 1, []), (.getfield 204, 3, [12, 100, 1977, 0]), (.iload_n 1, 1, []), (.iaload, 1, []), (.aload_n 0, 1, []), (.getfield 213, 3, [12, 103, 1980, 0]), (.iload_n 1, 1, []), (.iaload, 1, []), (.iconst 2, 1, []), (.invokevirtual 807, 3, [355, 3, 2800, 0, 0, 12]), (.aload_n 0, 1, []), (.aload_n 0, 1, []), (.getfield 207, 3, [12, 101, 1978, 0]), (.iload_n 1, 1, []), (.iaload, 1, []), (.invokevirtual 801, 3, [356, 1, 2804, 0, 1, 12]), (.istore 7, 2, []), (.aload_n 0, 1, []), (.aload_n 0, 1, []), (.getfield 222, 3, [12, 106, 1983, 0]), (.iload_n 1, 1, []), (.iaload, 1, []), (.aload_n 0, 1, []), (.getfield 225, 3, [12, 107, 1984, 0]), (.iload_n 1, 1, []), (.iaload, 1, []), (.iconst 1, 1, []), (.invokevirtual 822, 3, [354, 3, 2796, 0, 0, 12]), (.aload_n 0, 1, []), (.aload_n 0, 1, []), (.getfield 228, 3, [12, 108, 1985, 0]), (.iload_n 1, 1, []), (.iaload, 1, []), (.aload_n 0, 1, []), (.getfield 231, 3, [12, 109, 1986, 0]), (.iload_n 1, 1, []), (.iaload, 1, []), (.iconst 2, 1, []), (.invokevirtual 822, 3, [354, 3, 2796, 0, 0, 12]), (.aload_n 0, 1, []), (.aload_n 0, 1, []), (.getfield 210, 3, [12, 102, 1979, 0]), (.iload_n 1, 1, []), (.iaload, 1, []), (.aload_n 0, 1, []), (.getfield 219, 3, [12, 105, 1982, 0]), (.iload_n 1, 1, []), (.iaload, 1, []), (.iload 7, 2, []), (.invokevirtual 807, 3, [355, 3, 2800, 0, 0, 12]), (.aload_n 0, 1, []), (.dup, 1, []), (.getfield 795, 3, [12, 117, 1994, 0]), (.iconst 2, 1, []), (.isub, 1, []), (.putfield 795, 3, [12, 117, 1994, 0]), (.iload 7, 2, []), (.ireturn, 1, [])]),
  (464, [(.aload_n 0, 1, []), (.aload_n 0, 1, []), (.getfield 204, 3, [12, 100, 1977, 0]), (.iload_n 1, 1, []), (.iaload, 1, []), (.aload_n 0, 1, []), (.getfield 213, 3, [12, 103, 1980, 0]), (.iload_n 1, 1, []), (.iaload, 1, []), (.iconst 1, 1, []), (.invokevirtual 807, 3, [355, 3, 2800, 0, 0, 12]), (.aload_n 0, 1, []), (.aload_n 0, 1, []), (.getfield 207, 3, [12, 101, 1978, 0]), (.iload_n 1, 1, []), (.iaload, 1, []), (.aload_n 0, 1, []), (.getfield 216, 3, [12, 104, 1981, 0]), (.iload_n 1, 1, []), (.iaload, 1, []), (.iconst 1, 1, []), (.invokevirtual 807, 3, [355, 3, 2800, 0, 0, 12]), (.iconst 1, 1, []), (.ireturn, 1, [])])]
set_option maxRecDepth 100000 in
theorem ok_M_check : fk_okM 356 B_M_check = true := by decide +kernel
abbrev C_M_check : fkC := []
set_option maxRecDepth 100000 in
set_option maxHeartbeats 4000000 in
theorem S_M_check {d : Nat} {a0 : Int32} {σ : fkS} {Q : Option Value → fkS → Prop} 
  (h : (vp_in a0 3000 ∧
  ((((σ.1 164 a0.toNatClampNeg).toInt < 0 ∨ 10 < (σ.1 164 a0.toNatClampNeg).toInt) →
    (vp_in a0 3000 ∧
    (vp_in a0 3000 ∧
    (Cv d 355 [.ref 103, .int (σ.1 166 a0.toNatClampNeg), .int (σ.1 169 a0.toNatClampNeg), .int (1 : Int32)] σ (fun σ1 =>
    (vp_in a0 3000 ∧
    (vp_in a0 3000 ∧
    (Cv d 355 [.ref 103, .int (σ1.1 167 a0.toNatClampNeg), .int (σ1.1 170 a0.toNatClampNeg), .int (1 : Int32)] σ1 (fun σ2 =>
    Q (some (.int (1 : Int32))) σ2))))))))) ∧
   ((σ.1 164 a0.toNatClampNeg).toInt = 0 →
    Q (some (.int (1 : Int32))) σ) ∧
   ((σ.1 164 a0.toNatClampNeg).toInt = 1 →
    (vp_in a0 3000 ∧
    (vp_in a0 3000 ∧
    (Cv d 355 [.ref 103, .int (σ.1 166 a0.toNatClampNeg), .int (σ.1 169 a0.toNatClampNeg), .int (1 : Int32)] σ (fun σ3 =>
    Q (some (.int (1 : Int32))) σ3))))) ∧
   ((σ.1 164 a0.toNatClampNeg).toInt = 2 →
    (vp_in a0 3000 ∧
    (vp_in a0 3000 ∧
    (Ci d 353 [.ref 103, .int (σ.1 172 a0.toNatClampNeg), .int (σ.1 173 a0.toNatClampNeg)] σ (fun x5 σ4 =>
    ((0 ≤ x5 →
      ((0 ≤ x5 →
        (vp_in x5 3000 ∧
        Q (some (.int (σ4.1 179 x5.toNatClampNeg))) σ4)) ∧
       (¬ 0 ≤ x5 →
        Q (some (.int (0 : Int32))) σ4))) ∧
     (¬ 0 ≤ x5 →
      (vp_in a0 3000 ∧
      (Cv d 352 [.ref 103, .int (σ4.1 172 a0.toNatClampNeg)] σ4 (fun σ6 =>
      ((0 ≤ x5 →
        (vp_in x5 3000 ∧
        Q (some (.int (σ6.1 179 x5.toNatClampNeg))) σ6)) ∧
       (¬ 0 ≤ x5 →
        Q (some (.int (0 : Int32))) σ6)))))))))))) ∧
   ((σ.1 164 a0.toNatClampNeg).toInt = 3 →
    (Ci d 357 [.ref 103, .int a0] σ (fun x8 σ7 =>
    Q (some (.int x8)) σ7))) ∧
   ((σ.1 164 a0.toNatClampNeg).toInt = 4 →
    (vp_in a0 3000 ∧
    (vp_in a0 3000 ∧
    (Ci d 358 [.ref 103, .int (σ.1 172 a0.toNatClampNeg), .int (σ.1 173 a0.toNatClampNeg)] σ (fun x10 σ9 =>
    ((0 ≤ x10 →
      (Ci d 359 [.ref 103, .int x10] σ9 (fun x12 σ11 =>
      ((¬ x12 = 0 →
        Q (some (.int (3 : Int32))) σ11) ∧
       (x12 = 0 →
        (vp_in a0 3000 ∧
        (Cv d 352 [.ref 103, .int (σ11.1 165 a0.toNatClampNeg)] σ11 (fun σ13 =>
        Q (some (.int (3 : Int32))) σ13)))))))) ∧
     (¬ 0 ≤ x10 →
      (vp_in a0 3000 ∧
      (Cv d 352 [.ref 103, .int (σ9.1 172 a0.toNatClampNeg)] σ9 (fun σ14 =>
      Q (some (.int (3 : Int32))) σ14)))))))))) ∧
   ((σ.1 164 a0.toNatClampNeg).toInt = 5 →
    Q (some (.int (2 : Int32))) σ) ∧
   ((σ.1 164 a0.toNatClampNeg).toInt = 6 →
    (vp_in a0 3000 ∧
    (vp_in a0 3000 ∧
    (Cv d 355 [.ref 103, .int (σ.1 166 a0.toNatClampNeg), .int (σ.1 169 a0.toNatClampNeg), .int (1 : Int32)] σ (fun σ15 =>
    (vp_in a0 3000 ∧
    (vp_in a0 3000 ∧
    (Cv d 355 [.ref 103, .int (σ15.1 167 a0.toNatClampNeg), .int (σ15.1 170 a0.toNatClampNeg), .int (2 : Int32)] σ15 (fun σ16 =>
    Q (some (.int (2 : Int32))) σ16))))))))) ∧
   ((σ.1 164 a0.toNatClampNeg).toInt = 7 →
    (vp_in a0 3000 ∧
    (vp_in a0 3000 ∧
    (Cv d 355 [.ref 103, .int (σ.1 166 a0.toNatClampNeg), .int (σ.1 169 a0.toNatClampNeg), .int (3 : Int32)] σ (fun σ17 =>
    (vp_in a0 3000 ∧
    (vp_in a0 3000 ∧
    (Cv d 355 [.ref 103, .int (σ17.1 167 a0.toNatClampNeg), .int (σ17.1 170 a0.toNatClampNeg), .int (1 : Int32)] σ17 (fun σ18 =>
    Q (some (.int (1 : Int32))) σ18))))))))) ∧
   ((σ.1 164 a0.toNatClampNeg).toInt = 8 →
    (vp_in a0 3000 ∧
    (Ci d 356 [.ref 103, .int (σ.1 166 a0.toNatClampNeg)] σ (fun x20 σ19 =>
    (vp_in a0 3000 ∧
    (vp_in a0 3000 ∧
    (Cv d 354 [.ref 103, .int (σ19.1 172 a0.toNatClampNeg), .int (σ19.1 173 a0.toNatClampNeg), .int x20] σ19 (fun σ21 =>
    (vp_in a0 3000 ∧
    (Ci d 356 [.ref 103, .int (σ21.1 167 a0.toNatClampNeg)] σ21 (fun x23 σ22 =>
    Q (some (.int x23)) (sI σ22 103 117 ((σ22.1 103 117) - (1 : Int32)))))))))))))) ∧
   ((σ.1 164 a0.toNatClampNeg).toInt = 9 →
    (vp_in a0 3000 ∧
    (vp_in a0 3000 ∧
    (Cv d 355 [.ref 103, .int (σ.1 166 a0.toNatClampNeg), .int (σ.1 169 a0.toNatClampNeg), .int (1 : Int32)] σ (fun σ24 =>
    (vp_in a0 3000 ∧
    (Ci d 356 [.ref 103, .int (σ24.1 167 a0.toNatClampNeg)] σ24 (fun x26 σ25 =>
    (vp_in a0 3000 ∧
    (vp_in a0 3000 ∧
    (Cv d 355 [.ref 103, .int (σ25.1 168 a0.toNatClampNeg), .int (σ25.1 171 a0.toNatClampNeg), .int x26] σ25 (fun σ27 =>
    Q (some (.int x26)) σ27)))))))))))) ∧
   ((σ.1 164 a0.toNatClampNeg).toInt = 10 →
    (vp_in a0 3000 ∧
    (vp_in a0 3000 ∧
    (Cv d 355 [.ref 103, .int (σ.1 166 a0.toNatClampNeg), .int (σ.1 169 a0.toNatClampNeg), .int (2 : Int32)] σ (fun σ28 =>
    (vp_in a0 3000 ∧
    (Ci d 356 [.ref 103, .int (σ28.1 167 a0.toNatClampNeg)] σ28 (fun x30 σ29 =>
    (vp_in a0 3000 ∧
    (vp_in a0 3000 ∧
    (Cv d 354 [.ref 103, .int (σ29.1 172 a0.toNatClampNeg), .int (σ29.1 173 a0.toNatClampNeg), .int (1 : Int32)] σ29 (fun σ31 =>
    (vp_in a0 3000 ∧
    (vp_in a0 3000 ∧
    (Cv d 354 [.ref 103, .int (σ31.1 174 a0.toNatClampNeg), .int (σ31.1 175 a0.toNatClampNeg), .int (2 : Int32)] σ31 (fun σ32 =>
    (vp_in a0 3000 ∧
    (vp_in a0 3000 ∧
    (Cv d 355 [.ref 103, .int (σ32.1 168 a0.toNatClampNeg), .int (σ32.1 171 a0.toNatClampNeg), .int x30] σ32 (fun σ33 =>
    Q (some (.int x30)) (sI σ33 103 117 ((σ33.1 103 117) - (2 : Int32))))))))))))))))))))))) ∧ True))) :
  Cl (d + 1) 356 [.ref 103, .int a0] σ Q := by
  exact Cl.run B_M_check C_M_check 25 fk_q356 ok_M_check rfl h
def B_M_checkCall : fkB := [(0, [(.aload_n 0, 1, []), (.aload_n 0, 1, []), (.getfield 222, 3, [12, 106, 1983, 0]), (.iload_n 1, 1, []), (.iaload, 1, []), (.aload_n 0, 1, []), (.getfield 225, 3, [12, 107, 1984, 0]), (.iload_n 1, 1, []), (.iaload, 1, []), (.invokevirtual 816, 3, [358, 2, 2812, 0, 1, 12]), (.istore_n 2, 1, []), (.iload_n 2, 1, []), (.ifCond .lt 18, 3, [36])]),
  (21, [(.aload_n 0, 1, []), (.getfield 177, 3, [12, 90, 1967, 0]), (.iload_n 2, 1, []), (.iaload, 1, []), (.aload_n 0, 1, []), (.getfield 234, 3, [12, 110, 1987, 0]), (.iload_n 1, 1, []), (.iaload, 1, []), (.if_icmp .eq 13, 3, [46])]),
  (36, [(.aload_n 0, 1, []), (.aload_n 0, 1, []), (.getfield 222, 3, [12, 106, 1983, 0]), (.iload_n 1, 1, []), (.iaload, 1, []), (.invokevirtual 804, 3, [352, 1, 2788, 0, 0, 12])]),
  (46, [(.iconst 0, 1, []), (.istore_n 3, 1, []), (.aload_n 0, 1, []), (.getfield 204, 3, [12, 100, 1977, 0]), (.iload_n 1, 1, []), (.iaload, 1, []), (.istore 4, 2, [])]),
  (56, [(.iload 4, 2, []), (.ifCond .lt 64, 3, [122])]),
  (61, [(.aload_n 0, 1, []), (.aload_n 0, 1, []), (.getfield 204, 3, [12, 100, 1977, 0]), (.iload 4, 2, []), (.iaload, 1, []), (.aload_n 0, 1, []), (.getfield 213, 3, [12, 103, 1980, 0]), (.iload 4, 2, []), (.iaload, 1, []), (.iload_n 2, 1, []), (.ifCond .lt 26, 3, [103])]),
  (80, [(.iload_n 3, 1, []), (.aload_n 0, 1, []), (.getfield 177, 3, [12, 90, 1967, 0]), (.iload_n 2, 1, []), (.iaload, 1, []), (.if_icmp .ge 16, 3, [103])]),
  (90, [(.aload_n 0, 1, []), (.getfield 195, 3, [12, 96, 1973, 0]), (.iconst 4, 1, []), (.iload_n 2, 1, []), (.imul, 1, []), (.iload_n 3, 1, []), (.iadd, 1, []), (.iaload, 1, []), (.goto 4, 3, [104])]),
  (103, [(.iconst 0, 1, [])]),
  (104, [(.invokevirtual 807, 3, [355, 3, 2800, 0, 0, 12]), (.iinc 3 1, 3, []), (.aload_n 0, 1, []), (.getfield 207, 3, [12, 101, 1978, 0]), (.iload 4, 2, []), (.iaload, 1, []), (.istore 4, 2, []), (.goto (-63), 3, [56])]),
  (122, [(.iload_n 2, 1, []), (.ifCond .ge 7, 3, [130])]),
  (126, [(.iconst 0, 1, []), (.goto 9, 3, [136])]),
  (130, [(.aload_n 0, 1, []), (.getfield 180, 3, [12, 91, 1968, 0]), (.iload_n 2, 1, []), (.iaload, 1, [])]),
  (136, [(.ireturn, 1, [])])]
set_option maxRecDepth 100000 in
theorem ok_M_checkCall : fk_okM 357 B_M_checkCall = true := by decide +kernel
abbrev C_M_checkCall : fkC := [(56, [true, false, true, true, true])]
set_option maxRecDepth 100000 in
set_option maxHeartbeats 4000000 in
theorem S_M_checkCall {d : Nat} {a0 : Int32} {σ : fkS} {Q : Option Value → fkS → Prop} 
  (h : (vp_in a0 3000 ∧
  (vp_in a0 3000 ∧
  (Ci d 358 [.ref 103, .int (σ.1 172 a0.toNatClampNeg), .int (σ.1 173 a0.toNatClampNeg)] σ (fun x2 σ1 =>
  ((x2 < 0 →
    (vp_in a0 3000 ∧
    (Cv d 352 [.ref 103, .int (σ1.1 172 a0.toNatClampNeg)] σ1 (fun σ3 =>
    (vp_in a0 3000 ∧
    Wq 357 (d + 1) 56 [some (.ref 103), none, some (.int x2), some (.int (0 : Int32)), some (.int (σ3.1 166 a0.toNatClampNeg))] [] σ3 Q))))) ∧
   (¬ x2 < 0 →
    (vp_in x2 20 ∧
    (vp_in a0 3000 ∧
    (((σ1.1 157 x2.toNatClampNeg) = (σ1.1 176 a0.toNatClampNeg) →
      (vp_in a0 3000 ∧
      Wq 357 (d + 1) 56 [some (.ref 103), none, some (.int x2), some (.int (0 : Int32)), some (.int (σ1.1 166 a0.toNatClampNeg))] [] σ1 Q)) ∧
     (¬ (σ1.1 157 x2.toNatClampNeg) = (σ1.1 176 a0.toNatClampNeg) →
      (vp_in a0 3000 ∧
      (Cv d 352 [.ref 103, .int (σ1.1 172 a0.toNatClampNeg)] σ1 (fun σ4 =>
      (vp_in a0 3000 ∧
      Wq 357 (d + 1) 56 [some (.ref 103), none, some (.int x2), some (.int (0 : Int32)), some (.int (σ4.1 166 a0.toNatClampNeg))] [] σ4 Q))))))))))))))) :
  Cl (d + 1) 357 [.ref 103, .int a0] σ Q := by
  exact Cl.run B_M_checkCall C_M_checkCall 17 fk_q357 ok_M_checkCall rfl h
set_option maxRecDepth 100000 in
set_option maxHeartbeats 4000000 in
theorem S_M_checkCall_56 {d : Nat} {v2 : Int32} {v3 : Int32} {v4 : Int32} {σ : fkS} {Q : Option Value → fkS → Prop} 
  (h : ((v4 < 0 →
    ((0 ≤ v2 →
      (vp_in v2 20 ∧
      Q (some (.int (σ.1 158 v2.toNatClampNeg))) σ)) ∧
     (¬ 0 ≤ v2 →
      Q (some (.int (0 : Int32))) σ))) ∧
   (¬ v4 < 0 →
    (vp_in v4 3000 ∧
    (vp_in v4 3000 ∧
    ((v2 < 0 →
      (Cv d 355 [.ref 103, .int (σ.1 166 v4.toNatClampNeg), .int (σ.1 169 v4.toNatClampNeg), .int (0 : Int32)] σ (fun σ1 =>
      (vp_in v4 3000 ∧
      Wq 357 (d + 1) 56 [some (.ref 103), none, some (.int v2), some (.int (v3 + (1 : Int32))), some (.int (σ1.1 167 v4.toNatClampNeg))] [] σ1 Q)))) ∧
     (¬ v2 < 0 →
      (vp_in v2 20 ∧
      (((σ.1 157 v2.toNatClampNeg) ≤ v3 →
        (Cv d 355 [.ref 103, .int (σ.1 166 v4.toNatClampNeg), .int (σ.1 169 v4.toNatClampNeg), .int (0 : Int32)] σ (fun σ2 =>
        (vp_in v4 3000 ∧
        Wq 357 (d + 1) 56 [some (.ref 103), none, some (.int v2), some (.int (v3 + (1 : Int32))), some (.int (σ2.1 167 v4.toNatClampNeg))] [] σ2 Q)))) ∧
       (¬ (σ.1 157 v2.toNatClampNeg) ≤ v3 →
        (vp_in (((4 : Int32) * v2) + v3) 80 ∧
        (Cv d 355 [.ref 103, .int (σ.1 166 v4.toNatClampNeg), .int (σ.1 169 v4.toNatClampNeg), .int (σ.1 163 ((((4 : Int32) * v2) + v3).toNatClampNeg))] σ (fun σ3 =>
        (vp_in v4 3000 ∧
        Wq 357 (d + 1) 56 [some (.ref 103), none, some (.int v2), some (.int (v3 + (1 : Int32))), some (.int (σ3.1 167 v4.toNatClampNeg))] [] σ3 Q)))))))))))))) :
  Wq 357 (d + 1) 56 [some (.ref 103), none, some (.int v2), some (.int v3), some (.int v4)] [] σ Q := by
  exact fk_run_sound (B := B_M_checkCall) (C := C_M_checkCall) (n := 17) ok_M_checkCall h
def B_M_functionOf : fkB := [(0, [(.iconst 0, 1, []), (.istore_n 3, 1, [])]),
  (2, [(.iload_n 3, 1, []), (.aload_n 0, 1, []), (.getfield 719, 3, [12, 97, 1974, 0]), (.if_icmp .ge 32, 3, [39])]),
  (10, [(.aload_n 0, 1, []), (.aload_n 0, 1, []), (.getfield 171, 3, [12, 88, 1965, 0]), (.iload_n 3, 1, []), (.iaload, 1, []), (.aload_n 0, 1, []), (.getfield 174, 3, [12, 89, 1966, 0]), (.iload_n 3, 1, []), (.iaload, 1, []), (.iload_n 1, 1, []), (.iload_n 2, 1, []), (.invokevirtual 791, 3, [351, 4, 2784, 0, 1, 12]), (.ifCond .eq 5, 3, [33])]),
  (31, [(.iload_n 3, 1, []), (.ireturn, 1, [])]),
  (33, [(.iinc 3 1, 3, []), (.goto (-34), 3, [2])]),
  (39, [(.iconst (-1), 1, []), (.ireturn, 1, [])])]
set_option maxRecDepth 100000 in
theorem ok_M_functionOf : fk_okM 358 B_M_functionOf = true := by decide +kernel
abbrev C_M_functionOf : fkC := [(2, [true, true, true, true])]
set_option maxRecDepth 100000 in
set_option maxHeartbeats 4000000 in
theorem S_M_functionOf {d : Nat} {a0 : Int32} {a1 : Int32} {σ : fkS} {Q : Option Value → fkS → Prop} 
  (h : Wq 358 (d + 1) 2 [some (.ref 103), some (.int a0), some (.int a1), some (.int (0 : Int32))] [] σ Q) :
  Cl (d + 1) 358 [.ref 103, .int a0, .int a1] σ Q := by
  exact Cl.run B_M_functionOf C_M_functionOf 9 fk_q358 ok_M_functionOf rfl h
set_option maxRecDepth 100000 in
set_option maxHeartbeats 4000000 in
theorem S_M_functionOf_2 {d : Nat} {v1 : Int32} {v2 : Int32} {v3 : Int32} {σ : fkS} {Q : Option Value → fkS → Prop} 
  (h : (((σ.1 103 97) ≤ v3 →
    Q (some (.int (-1 : Int32))) σ) ∧
   (¬ (σ.1 103 97) ≤ v3 →
    (vp_in v3 20 ∧
    (vp_in v3 20 ∧
    (Ci d 351 [.ref 103, .int (σ.1 155 v3.toNatClampNeg), .int (σ.1 156 v3.toNatClampNeg), .int v1, .int v2] σ (fun x2 σ1 =>
    ((x2 = 0 →
      Wq 358 (d + 1) 2 [some (.ref 103), some (.int v1), some (.int v2), some (.int (v3 + (1 : Int32)))] [] σ1 Q) ∧
     (¬ x2 = 0 →
      Q (some (.int v3)) σ1))))))))) :
  Wq 358 (d + 1) 2 [some (.ref 103), some (.int v1), some (.int v2), some (.int v3)] [] σ Q := by
  exact fk_run_sound (B := B_M_functionOf) (C := C_M_functionOf) (n := 9) ok_M_functionOf h
def B_M_isAct : fkB := [(0, [(.aload_n 0, 1, []), (.getfield 177, 3, [12, 90, 1967, 0]), (.iload_n 1, 1, []), (.iaload, 1, []), (.iconst 1, 1, []), (.if_icmp .ne 29, 3, [36])]),
  (10, [(.aload_n 0, 1, []), (.getfield 195, 3, [12, 96, 1973, 0]), (.iconst 4, 1, []), (.iload_n 1, 1, []), (.imul, 1, []), (.iaload, 1, []), (.iconst 1, 1, []), (.if_icmp .ne 17, 3, [36])]),
  (22, [(.aload_n 0, 1, []), (.getfield 180, 3, [12, 91, 1968, 0]), (.iload_n 1, 1, []), (.iaload, 1, []), (.iconst 1, 1, []), (.if_icmp .ne 7, 3, [36])]),
  (32, [(.iconst 1, 1, []), (.goto 4, 3, [37])]),
  (36, [(.iconst 0, 1, [])]),
  (37, [(.ireturn, 1, [])])]
set_option maxRecDepth 100000 in
theorem ok_M_isAct : fk_okM 359 B_M_isAct = true := by decide +kernel
abbrev C_M_isAct : fkC := []
set_option maxRecDepth 100000 in
set_option maxHeartbeats 4000000 in
theorem S_M_isAct {d : Nat} {a0 : Int32} {σ : fkS} {Q : Option Value → fkS → Prop} 
  (h : (vp_in a0 20 ∧
  ((¬ (σ.1 157 a0.toNatClampNeg) = (1 : Int32) →
    Q (some (.int (0 : Int32))) σ) ∧
   ((σ.1 157 a0.toNatClampNeg) = (1 : Int32) →
    (vp_in ((4 : Int32) * a0) 80 ∧
    ((¬ (σ.1 163 (((4 : Int32) * a0).toNatClampNeg)) = (1 : Int32) →
      Q (some (.int (0 : Int32))) σ) ∧
     ((σ.1 163 (((4 : Int32) * a0).toNatClampNeg)) = (1 : Int32) →
      (vp_in a0 20 ∧
      ((¬ (σ.1 158 a0.toNatClampNeg) = (1 : Int32) →
        Q (some (.int (0 : Int32))) σ) ∧
       ((σ.1 158 a0.toNatClampNeg) = (1 : Int32) →
        Q (some (.int (1 : Int32))) σ)))))))))) :
  Cl d 359 [.ref 103, .int a0] σ Q := by
  exact Cl.run B_M_isAct C_M_isAct 9 fk_q359 ok_M_isAct rfl h
def B_M_turns : fkB := [(0, [(.aload_n 0, 1, []), (.getfield 198, 3, [12, 98, 1975, 0]), (.iload_n 1, 1, []), (.iaload, 1, []), (.tableswitch 424 0 11 #[62, 78, 99, 125, 188, 214, 225, 225, 293, 354, 424, 225], 62, [430, 68, 84, 105, 131, 194, 220, 231, 231, 299, 360, 430, 231])]),
  (68, [(.aload_n 0, 1, []), (.iconst 0, 1, []), (.aload_n 0, 1, []), (.getfield 234, 3, [12, 110, 1987, 0]), (.iload_n 1, 1, []), (.iaload, 1, []), (.iconst 0, 1, []), (.invokevirtual 828, 3, [361, 3, 2824, 0, 1, 12]), (.istore_n 2, 1, []), (.goto 464, 3, [545])]),
  (84, [(.aload_n 0, 1, []), (.aload_n 0, 1, []), (.getfield 204, 3, [12, 100, 1977, 0]), (.iload_n 1, 1, []), (.iaload, 1, []), (.invokevirtual 831, 3, [360, 1, 2820, 0, 0, 12]), (.aload_n 0, 1, []), (.iconst 3, 1, []), (.iconst 0, 1, []), (.iconst 0, 1, []), (.invokevirtual 828, 3, [361, 3, 2824, 0, 1, 12]), (.istore_n 2, 1, []), (.goto 443, 3, [545])]),
  (105, [(.aload_n 0, 1, []), (.iconst 1, 1, []), (.aload_n 0, 1, []), (.aload_n 0, 1, []), (.getfield 222, 3, [12, 106, 1983, 0]), (.iload_n 1, 1, []), (.iaload, 1, []), (.aload_n 0, 1, []), (.getfield 225, 3, [12, 107, 1984, 0]), (.iload_n 1, 1, []), (.iaload, 1, []), (.invokevirtual 810, 3, [353, 2, 2792, 0, 1, 12]), (.iconst 0, 1, []), (.invokevirtual 828, 3, [361, 3, 2824, 0, 1, 12]), (.istore_n 2, 1, []), (.goto 417, 3, [545])]),
  (131, [(.aload_n 0, 1, []), (.getfield 204, 3, [12, 100, 1977, 0]), (.iload_n 1, 1, []), (.iaload, 1, []), (.istore 4, 2, [])]),
  (139, [(.iload 4, 2, []), (.ifCond .lt 26, 3, [167])]),
  (144, [(.aload_n 0, 1, []), (.aload_n 0, 1, []), (.getfield 204, 3, [12, 100, 1977, 0]), (.iload 4, 2, []), (.iaload, 1, []), (.invokevirtual 831, 3, [360, 1, 2820, 0, 0, 12]), (.aload_n 0, 1, []), (.getfield 207, 3, [12, 101, 1978, 0]), (.iload 4, 2, []), (.iaload, 1, []), (.istore 4, 2, []), (.goto (-25), 3, [139])]),
  (167, [(.aload_n 0, 1, []), (.bipush 8, 2, []), (.aload_n 0, 1, []), (.aload_n 0, 1, []), (.getfield 222, 3, [12, 106, 1983, 0]), (.iload_n 1, 1, []), (.iaload, 1, []), (.aload_n 0, 1, []), (.getfield 225, 3, [12, 107, 1984, 0]), (.iload_n 1, 1, []), (.iaload, 1, []), (.invokevirtual 816, 3, [358, 2, 2812, 0, 1, 12]), (.iconst 0, 1, []), (.invokevirtual 828, 3, [361, 3, 2824, 0, 1, 12]), (.istore_n 2, 1, []), (.goto 354, 3, [545])]),
  (194, [(.aload_n 0, 1, []), (.iconst 0, 1, []), (.aload_n 0, 1, []), (.aload_n 0, 1, []), (.getfield 222, 3, [12, 106, 1983, 0]), (.iload_n 1, 1, []), (.iaload, 1, []), (.aload_n 0, 1, []), (.getfield 225, 3, [12, 107, 1984, 0]), (.iload_n 1, 1, []), (.iaload, 1, []), (.invokevirtual 816, 3, [358, 2, 2812, 0, 1, 12]), (.iconst 0, 1, []), (.invokevirtual 828, 3, [361, 3, 2824, 0, 1, 12]), (.istore_n 2, 1, []), (.goto 328, 3, [545])]),
  (220, [(.aload_n 0, 1, []), (.iconst 0, 1, []), (.iconst (-1), 1, []), (.iconst 0, 1, []), (.invokevirtual 828, 3, [361, 3, 2824, 0, 1, 12]), (.istore_n 2, 1, []), (.goto 317, 3, [545])]),
  (231, [(.aload_n 0, 1, []), (.aload_n 0, 1, []), (.getfield 204, 3, [12, 100, 1977, 0]), (.iload_n 1, 1, []), (.iaload, 1, []), (.invokevirtual 831, 3, [360, 1, 2820, 0, 0, 12]), (.aload_n 0, 1, []), (.aload_n 0, 1, []), (.getfield 207, 3, [12, 101, 1978, 0]), (.iload_n 1, 1, []), (.iaload, 1, []), (.invokevirtual 831, 3, [360, 1, 2820, 0, 0, 12]), (.aload_n 0, 1, []), (.aload_n 0, 1, []), (.getfield 198, 3, [12, 98, 1975, 0]), (.iload_n 1, 1, []), (.iaload, 1, []), (.bipush 6, 2, []), (.if_icmp .ne 8, 3, [268])]),
  (263, [(.bipush 7, 2, []), (.goto 20, 3, [285])]),
  (268, [(.aload_n 0, 1, []), (.getfield 198, 3, [12, 98, 1975, 0]), (.iload_n 1, 1, []), (.iaload, 1, []), (.bipush 7, 2, []), (.if_icmp .ne 8, 3, [284])]),
  (279, [(.bipush 9, 2, []), (.goto 4, 3, [285])]),
  (284, [(.iconst 4, 1, [])]),
  (285, [(.aload_n 0, 1, []), (.getfield 234, 3, [12, 110, 1987, 0]), (.iload_n 1, 1, []), (.iaload, 1, []), (.iconst 0, 1, []), (.invokevirtual 828, 3, [361, 3, 2824, 0, 1, 12]), (.istore_n 2, 1, []), (.goto 249, 3, [545])]),
  (299, [(.aload_n 0, 1, []), (.aload_n 0, 1, []), (.getfield 204, 3, [12, 100, 1977, 0]), (.iload_n 1, 1, []), (.iaload, 1, []), (.invokevirtual 831, 3, [360, 1, 2820, 0, 0, 12]), (.aload_n 0, 1, []), (.iconst 2, 1, []), (.aload_n 0, 1, []), (.getfield 795, 3, [12, 117, 1994, 0]), (.iconst 0, 1, []), (.invokevirtual 828, 3, [361, 3, 2824, 0, 1, 12]), (.istore_n 2, 1, []), (.aload_n 0, 1, []), (.aload_n 0, 1, []), (.getfield 222, 3, [12, 106, 1983, 0]), (.iload_n 1, 1, []), (.iaload, 1, []), (.aload_n 0, 1, []), (.getfield 225, 3, [12, 107, 1984, 0]), (.iload_n 1, 1, []), (.iaload, 1, []), (.iconst 0, 1, []), (.invokevirtual 822, 3, [354, 3, 2796, 0, 0, 12]), (.aload_n 0, 1, []), (.aload_n 0, 1, []), (.getfield 207, 3, [12, 101, 1978, 0]), (.iload_n 1, 1, []), (.iaload, 1, []), (.invokevirtual 831, 3, [360, 1, 2820, 0, 0, 12]), (.aload_n 0, 1, []), (.dup, 1, []), (.getfield 795, 3, [12, 117, 1994, 0]), (.iconst 1, 1, []), (.isub, 1, []), (.putfield 795, 3, [12, 117, 1994, 0]), (.goto 188, 3, [545])]),
  (360, [(.aload_n 0, 1, []), (.aload_n 0, 1, []), (.getfield 204, 3, [12, 100, 1977, 0]), (.iload_n 1, 1, []), (.iaload, 1, []), (.invokevirtual 831, 3, [360, 1, 2820, 0, 0, 12]), (.aload_n 0, 1, []), (.iconst 5, 1, []), (.iconst 0, 1, []), (.iconst 0, 1, []), (.invokevirtual 828, 3, [361, 3, 2824, 0, 1, 12]), (.istore_n 2, 1, []), (.aload_n 0, 1, []), (.aload_n 0, 1, []), (.getfield 207, 3, [12, 101, 1978, 0]), (.iload_n 1, 1, []), (.iaload, 1, []), (.invokevirtual 831, 3, [360, 1, 2820, 0, 0, 12]), (.aload_n 0, 1, []), (.bipush 6, 2, []), (.iconst 0, 1, []), (.iconst 0, 1, []), (.invokevirtual 828, 3, [361, 3, 2824, 0, 1, 12]), (.istore_n 3, 1, []), (.aload_n 0, 1, []), (.getfield 249, 3, [12, 120, 1997, 0]), (.iload_n 2, 1, []), (.aload_n 0, 1, []), (.getfield 825, 3, [12, 125, 2002, 0]), (.iastore, 1, []), (.aload_n 0, 1, []), (.aload_n 0, 1, []), (.getfield 210, 3, [12, 102, 1979, 0]), (.iload_n 1, 1, []), (.iaload, 1, []), (.invokevirtual 831, 3, [360, 1, 2820, 0, 0, 12]), (.aload_n 0, 1, []), (.getfield 249, 3, [12, 120, 1997, 0]), (.iload_n 3, 1, []), (.aload_n 0, 1, []), (.getfield 825, 3, [12, 125, 2002, 0]), (.iastore, 1, []), (.goto 118, 3, [545])]),
  (430, [(.aload_n 0, 1, []), (.aload_n 0, 1, []), (.getfield 204, 3, [12, 100, 1977, 0]), (.iload_n 1, 1, []), (.iaload, 1, []), (.invokevirtual 831, 3, [360, 1, 2820, 0, 0, 12]), (.aload_n 0, 1, []), (.bipush 10, 2, []), (.iconst 0, 1, []), (.aload_n 0, 1, []), (.getfield 795, 3, [12, 117, 1994, 0]), (.invokevirtual 828, 3, [361, 3, 2824, 0, 1, 12]), (.istore_n 2, 1, []), (.aload_n 0, 1, []), (.aload_n 0, 1, []), (.getfield 207, 3, [12, 101, 1978, 0]), (.iload_n 1, 1, []), (.iaload, 1, []), (.invokevirtual 831, 3, [360, 1, 2820, 0, 0, 12]), (.aload_n 0, 1, []), (.bipush 6, 2, []), (.iconst 0, 1, []), (.iconst 0, 1, []), (.invokevirtual 828, 3, [361, 3, 2824, 0, 1, 12]), (.istore_n 3, 1, []), (.aload_n 0, 1, []), (.getfield 249, 3, [12, 120, 1997, 0]), (.iload_n 2, 1, []), (.aload_n 0, 1, []), (.getfield 825, 3, [12, 125, 2002, 0]), (.iastore, 1, []), (.aload_n 0, 1, []), (.aload_n 0, 1, []), (.getfield 222, 3, [12, 106, 1983, 0]), (.iload_n 1, 1, []), (.iaload, 1, []), (.aload_n 0, 1, []), (.getfield 225, 3, [12, 107, 1984, 0]), (.iload_n 1, 1, []), (.iaload, 1, []), (.iconst 0, 1, []), (.invokevirtual 822, 3, [354, 3, 2796, 0, 0, 12]), (.aload_n 0, 1, []), (.aload_n 0, 1, []), (.getfield 228, 3, [12, 108, 1985, 0]), (.iload_n 1, 1, []), (.iaload, 1, []), (.aload_n 0, 1, []), (.getfield 231, 3, [12, 109, 1986, 0]), (.iload_n 1, 1, []), (.iaload, 1, []), (.iconst 0, 1, []), (.invokevirtual 822, 3, [354, 3, 2796, 0, 0, 12]), (.aload_n 0, 1, []), (.aload_n 0, 1, []), (.getfield 210, 3, [12, 102, 1979, 0]), (.iload_n 1, 1, []), (.iaload, 1, []), (.invokevirtual 831, 3, [360, 1, 2820, 0, 0, 12]), (.aload_n 0, 1, []), (.dup, 1, []), (.getfield 795, 3, [12, 117, 1994, 0]), (.iconst 2, 1, []), (.isub, 1, []), (.putfield 795, 3, [12, 117, 1994, 0]), (.aload_n 0, 1, []), (.getfield 249, 3, [12, 120, 1997, 0]), (.iload_n 3, 1, []), (.aload_n 0, 1, []), (.getfield 825, 3, [12, 125, 2002, 0]), (.iastore, 1, [])]),
  (545, [(.return_, 1, [])])]
set_option maxRecDepth 100000 in
theorem ok_M_turns : fk_okM 360 B_M_turns = true := by decide +kernel
abbrev C_M_turns : fkC := [(139, [true, true, false, false, true]), (231, [true, true, false, false, false]), (430, [true, true, false, false, false])]
set_option maxRecDepth 100000 in
set_option maxHeartbeats 4000000 in
theorem S_M_turns {d : Nat} {a0 : Int32} {σ : fkS} {Q : Option Value → fkS → Prop} 
  (h : (vp_in a0 3000 ∧
  ((((σ.1 164 a0.toNatClampNeg).toInt < 0 ∨ 11 < (σ.1 164 a0.toNatClampNeg).toInt) →
    Wq 360 (d + 1) 430 [some (.ref 103), some (.int a0), none, none, none] [] σ Q) ∧
   ((σ.1 164 a0.toNatClampNeg).toInt = 0 →
    (vp_in a0 3000 ∧
    (Ci d 361 [.ref 103, .int (0 : Int32), .int (σ.1 176 a0.toNatClampNeg), .int (0 : Int32)] σ (fun x2 σ1 =>
    Q none σ1)))) ∧
   ((σ.1 164 a0.toNatClampNeg).toInt = 1 →
    (vp_in a0 3000 ∧
    (Cv d 360 [.ref 103, .int (σ.1 166 a0.toNatClampNeg)] σ (fun σ3 =>
    (Ci d 361 [.ref 103, .int (3 : Int32), .int (0 : Int32), .int (0 : Int32)] σ3 (fun x5 σ4 =>
    Q none σ4)))))) ∧
   ((σ.1 164 a0.toNatClampNeg).toInt = 2 →
    (vp_in a0 3000 ∧
    (vp_in a0 3000 ∧
    (Ci d 353 [.ref 103, .int (σ.1 172 a0.toNatClampNeg), .int (σ.1 173 a0.toNatClampNeg)] σ (fun x7 σ6 =>
    (Ci d 361 [.ref 103, .int (1 : Int32), .int x7, .int (0 : Int32)] σ6 (fun x9 σ8 =>
    Q none σ8))))))) ∧
   ((σ.1 164 a0.toNatClampNeg).toInt = 3 →
    (vp_in a0 3000 ∧
    Wq 360 (d + 1) 139 [some (.ref 103), some (.int a0), none, none, some (.int (σ.1 166 a0.toNatClampNeg))] [] σ Q)) ∧
   ((σ.1 164 a0.toNatClampNeg).toInt = 4 →
    (vp_in a0 3000 ∧
    (vp_in a0 3000 ∧
    (Ci d 358 [.ref 103, .int (σ.1 172 a0.toNatClampNeg), .int (σ.1 173 a0.toNatClampNeg)] σ (fun x11 σ10 =>
    (Ci d 361 [.ref 103, .int (0 : Int32), .int x11, .int (0 : Int32)] σ10 (fun x13 σ12 =>
    Q none σ12))))))) ∧
   ((σ.1 164 a0.toNatClampNeg).toInt = 5 →
    (Ci d 361 [.ref 103, .int (0 : Int32), .int (-1 : Int32), .int (0 : Int32)] σ (fun x15 σ14 =>
    Q none σ14))) ∧
   ((σ.1 164 a0.toNatClampNeg).toInt = 6 →
    Wq 360 (d + 1) 231 [some (.ref 103), some (.int a0), none, none, none] [] σ Q) ∧
   ((σ.1 164 a0.toNatClampNeg).toInt = 7 →
    Wq 360 (d + 1) 231 [some (.ref 103), some (.int a0), none, none, none] [] σ Q) ∧
   ((σ.1 164 a0.toNatClampNeg).toInt = 8 →
    (vp_in a0 3000 ∧
    (Cv d 360 [.ref 103, .int (σ.1 166 a0.toNatClampNeg)] σ (fun σ16 =>
    (Ci d 361 [.ref 103, .int (2 : Int32), .int (σ16.1 103 117), .int (0 : Int32)] σ16 (fun x18 σ17 =>
    (vp_in a0 3000 ∧
    (vp_in a0 3000 ∧
    (Cv d 354 [.ref 103, .int (σ17.1 172 a0.toNatClampNeg), .int (σ17.1 173 a0.toNatClampNeg), .int (0 : Int32)] σ17 (fun σ19 =>
    (vp_in a0 3000 ∧
    (Cv d 360 [.ref 103, .int (σ19.1 167 a0.toNatClampNeg)] σ19 (fun σ20 =>
    Q none (sI σ20 103 117 ((σ20.1 103 117) - (1 : Int32)))))))))))))))) ∧
   ((σ.1 164 a0.toNatClampNeg).toInt = 9 →
    (vp_in a0 3000 ∧
    (Cv d 360 [.ref 103, .int (σ.1 166 a0.toNatClampNeg)] σ (fun σ21 =>
    (Ci d 361 [.ref 103, .int (5 : Int32), .int (0 : Int32), .int (0 : Int32)] σ21 (fun x23 σ22 =>
    (vp_in a0 3000 ∧
    (Cv d 360 [.ref 103, .int (σ22.1 167 a0.toNatClampNeg)] σ22 (fun σ24 =>
    (Ci d 361 [.ref 103, .int (6 : Int32), .int (0 : Int32), .int (0 : Int32)] σ24 (fun x26 σ25 =>
    (vp_in x23 4000 ∧
    (vp_in a0 3000 ∧
    (Cv d 360 [.ref 103, .int (σ25.1 168 a0.toNatClampNeg)] (sI σ25 181 x23.toNatClampNeg (σ25.1 103 125)) (fun σ27 =>
    (vp_in x26 4000 ∧
    Q none (sI σ27 181 x26.toNatClampNeg (σ27.1 103 125)))))))))))))))))) ∧
   ((σ.1 164 a0.toNatClampNeg).toInt = 10 →
    Wq 360 (d + 1) 430 [some (.ref 103), some (.int a0), none, none, none] [] σ Q) ∧
   ((σ.1 164 a0.toNatClampNeg).toInt = 11 →
    Wq 360 (d + 1) 231 [some (.ref 103), some (.int a0), none, none, none] [] σ Q) ∧ True))) :
  Cl (d + 1) 360 [.ref 103, .int a0] σ Q := by
  exact Cl.run B_M_turns C_M_turns 23 fk_q360 ok_M_turns rfl h
set_option maxRecDepth 100000 in
set_option maxHeartbeats 4000000 in
theorem S_M_turns_139 {d : Nat} {v1 : Int32} {v4 : Int32} {σ : fkS} {Q : Option Value → fkS → Prop} 
  (h : ((v4 < 0 →
    (vp_in v1 3000 ∧
    (vp_in v1 3000 ∧
    (Ci d 358 [.ref 103, .int (σ.1 172 v1.toNatClampNeg), .int (σ.1 173 v1.toNatClampNeg)] σ (fun x2 σ1 =>
    (Ci d 361 [.ref 103, .int (8 : Int32), .int x2, .int (0 : Int32)] σ1 (fun x4 σ3 =>
    Q none σ3))))))) ∧
   (¬ v4 < 0 →
    (vp_in v4 3000 ∧
    (Cv d 360 [.ref 103, .int (σ.1 166 v4.toNatClampNeg)] σ (fun σ5 =>
    (vp_in v4 3000 ∧
    Wq 360 (d + 1) 139 [some (.ref 103), some (.int v1), none, none, some (.int (σ5.1 167 v4.toNatClampNeg))] [] σ5 Q))))))) :
  Wq 360 (d + 1) 139 [some (.ref 103), some (.int v1), none, none, some (.int v4)] [] σ Q := by
  exact fk_run_sound (B := B_M_turns) (C := C_M_turns) (n := 23) ok_M_turns h
set_option maxRecDepth 100000 in
set_option maxHeartbeats 4000000 in
theorem S_M_turns_231 {d : Nat} {v1 : Int32} {σ : fkS} {Q : Option Value → fkS → Prop} 
  (h : (vp_in v1 3000 ∧
  (Cv d 360 [.ref 103, .int (σ.1 166 v1.toNatClampNeg)] σ (fun σ1 =>
  (vp_in v1 3000 ∧
  (Cv d 360 [.ref 103, .int (σ1.1 167 v1.toNatClampNeg)] σ1 (fun σ2 =>
  (vp_in v1 3000 ∧
  ((¬ (σ2.1 164 v1.toNatClampNeg) = (6 : Int32) →
    (vp_in v1 3000 ∧
    ((¬ (σ2.1 164 v1.toNatClampNeg) = (7 : Int32) →
      (vp_in v1 3000 ∧
      (Ci d 361 [.ref 103, .int (4 : Int32), .int (σ2.1 176 v1.toNatClampNeg), .int (0 : Int32)] σ2 (fun x4 σ3 =>
      Q none σ3)))) ∧
     ((σ2.1 164 v1.toNatClampNeg) = (7 : Int32) →
      (vp_in v1 3000 ∧
      (Ci d 361 [.ref 103, .int (9 : Int32), .int (σ2.1 176 v1.toNatClampNeg), .int (0 : Int32)] σ2 (fun x6 σ5 =>
      Q none σ5))))))) ∧
   ((σ2.1 164 v1.toNatClampNeg) = (6 : Int32) →
    (vp_in v1 3000 ∧
    (Ci d 361 [.ref 103, .int (7 : Int32), .int (σ2.1 176 v1.toNatClampNeg), .int (0 : Int32)] σ2 (fun x8 σ7 =>
    Q none σ7))))))))))))) :
  Wq 360 (d + 1) 231 [some (.ref 103), some (.int v1), none, none, none] [] σ Q := by
  exact fk_run_sound (B := B_M_turns) (C := C_M_turns) (n := 23) ok_M_turns h
set_option maxRecDepth 100000 in
set_option maxHeartbeats 4000000 in
theorem S_M_turns_430 {d : Nat} {v1 : Int32} {σ : fkS} {Q : Option Value → fkS → Prop} 
  (h : (vp_in v1 3000 ∧
  (Cv d 360 [.ref 103, .int (σ.1 166 v1.toNatClampNeg)] σ (fun σ1 =>
  (Ci d 361 [.ref 103, .int (10 : Int32), .int (0 : Int32), .int (σ1.1 103 117)] σ1 (fun x3 σ2 =>
  (vp_in v1 3000 ∧
  (Cv d 360 [.ref 103, .int (σ2.1 167 v1.toNatClampNeg)] σ2 (fun σ4 =>
  (Ci d 361 [.ref 103, .int (6 : Int32), .int (0 : Int32), .int (0 : Int32)] σ4 (fun x6 σ5 =>
  (vp_in x3 4000 ∧
  (vp_in v1 3000 ∧
  (vp_in v1 3000 ∧
  (Cv d 354 [.ref 103, .int (σ5.1 172 v1.toNatClampNeg), .int (σ5.1 173 v1.toNatClampNeg), .int (0 : Int32)] (sI σ5 181 x3.toNatClampNeg (σ5.1 103 125)) (fun σ7 =>
  (vp_in v1 3000 ∧
  (vp_in v1 3000 ∧
  (Cv d 354 [.ref 103, .int (σ7.1 174 v1.toNatClampNeg), .int (σ7.1 175 v1.toNatClampNeg), .int (0 : Int32)] σ7 (fun σ8 =>
  (vp_in v1 3000 ∧
  (Cv d 360 [.ref 103, .int (σ8.1 168 v1.toNatClampNeg)] σ8 (fun σ9 =>
  (vp_in x6 4000 ∧
  Q none (sI (sI σ9 103 117 ((σ9.1 103 117) - (2 : Int32))) 181 x6.toNatClampNeg (σ9.1 103 125)))))))))))))))))))))))))) :
  Wq 360 (d + 1) 430 [some (.ref 103), some (.int v1), none, none, none] [] σ Q := by
  exact fk_run_sound (B := B_M_turns) (C := C_M_turns) (n := 23) ok_M_turns h
def B_M_lays : fkB := [(0, [(.aload_n 0, 1, []), (.getfield 246, 3, [12, 119, 1996, 0]), (.aload_n 0, 1, []), (.getfield 825, 3, [12, 125, 2002, 0]), (.iload_n 1, 1, []), (.iastore, 1, []), (.aload_n 0, 1, []), (.getfield 249, 3, [12, 120, 1997, 0]), (.aload_n 0, 1, []), (.getfield 825, 3, [12, 125, 2002, 0]), (.iload_n 2, 1, []), (.iastore, 1, []), (.aload_n 0, 1, []), (.getfield 252, 3, [12, 121, 1998, 0]), (.aload_n 0, 1, []), (.getfield 825, 3, [12, 125, 2002, 0]), (.iload_n 3, 1, []), (.iastore, 1, []), (.aload_n 0, 1, []), (.dup, 1, []), (.getfield 825, 3, [12, 125, 2002, 0]), (.iconst 1, 1, []), (.iadd, 1, []), (.putfield 825, 3, [12, 125, 2002, 0]), (.aload_n 0, 1, []), (.getfield 825, 3, [12, 125, 2002, 0]), (.iconst 1, 1, []), (.isub, 1, []), (.ireturn, 1, [])])]
set_option maxRecDepth 100000 in
theorem ok_M_lays : fk_okM 361 B_M_lays = true := by decide +kernel
abbrev C_M_lays : fkC := []
set_option maxRecDepth 100000 in
set_option maxHeartbeats 4000000 in
theorem S_M_lays {d : Nat} {a0 : Int32} {a1 : Int32} {a2 : Int32} {σ : fkS} {Q : Option Value → fkS → Prop} 
  (h : (vp_in (σ.1 103 125) 4000 ∧
  (vp_in (σ.1 103 125) 4000 ∧
  (vp_in (σ.1 103 125) 4000 ∧
  Q (some (.int (((σ.1 103 125) + (1 : Int32)) - (1 : Int32)))) (sI (sI (sI (sI σ 180 ((σ.1 103 125).toNatClampNeg) a0) 181 ((σ.1 103 125).toNatClampNeg) a1) 182 ((σ.1 103 125).toNatClampNeg) a2) 103 125 ((σ.1 103 125) + (1 : Int32))))))) :
  Cl d 361 [.ref 103, .int a0, .int a1, .int a2] σ Q := by
  exact Cl.run B_M_lays C_M_lays 4 fk_q361 ok_M_lays rfl h
def B_M_call : fkB := [(0, [(.iload_n 1, 1, []), (.aload_n 0, 1, []), (.getfield 840, 3, [12, 126, 2003, 0]), (.invokestatic 511, 3, [293, 2, 2532, 0, 1]), (.ifCond .eq 12, 3, [20])]),
  (11, [(.aload_n 0, 1, []), (.getfield 261, 3, [12, 124, 2001, 0]), (.iload_n 1, 1, []), (.iaload, 1, []), (.ifCond .ne 5, 3, [22])]),
  (20, [(.iconst (-1), 1, []), (.ireturn, 1, [])]),
  (22, [(.aload_n 0, 1, []), (.iconst 0, 1, []), (.putfield 858, 3, [12, 133, 2010, 0]), (.aload_n 0, 1, []), (.iconst 0, 1, []), (.putfield 864, 3, [12, 134, 2011, 0]), (.aload_n 0, 1, []), (.iconst 0, 1, []), (.putfield 849, 3, [12, 135, 2012, 0]), (.aload_n 0, 1, []), (.iconst 0, 1, []), (.putfield 846, 3, [12, 136, 2013, 0]), (.aload_n 0, 1, []), (.iconst 0, 1, []), (.putfield 861, 3, [12, 137, 2014, 0]), (.aload_n 0, 1, []), (.iconst 0, 1, []), (.putfield 852, 3, [12, 138, 2015, 0]), (.aload_n 0, 1, []), (.iconst (-1), 1, []), (.putfield 855, 3, [12, 142, 2019, 0]), (.iconst 0, 1, []), (.istore_n 2, 1, [])]),
  (59, [(.iload_n 2, 1, []), (.aload_n 0, 1, []), (.getfield 258, 3, [12, 123, 2000, 0]), (.iload_n 1, 1, []), (.iaload, 1, []), (.if_icmp .ge 35, 3, [101])]),
  (69, [(.aload_n 0, 1, []), (.getfield 265, 3, [12, 127, 2004, 0]), (.aload_n 0, 1, []), (.getfield 858, 3, [12, 133, 2010, 0]), (.aload_n 0, 1, []), (.getfield 152, 3, [12, 63, 1940, 0]), (.iload_n 2, 1, []), (.laload, 1, []), (.l2i, 1, []), (.iastore, 1, []), (.aload_n 0, 1, []), (.dup, 1, []), (.getfield 858, 3, [12, 133, 2010, 0]), (.iconst 1, 1, []), (.iadd, 1, []), (.putfield 858, 3, [12, 133, 2010, 0]), (.iinc 2 1, 3, []), (.goto (-39), 3, [59])]),
  (101, [(.aload_n 0, 1, []), (.iload_n 1, 1, []), (.invokevirtual 867, 3, [363, 1, 2832, 0, 0, 12])]),
  (106, [(.aload_n 0, 1, []), (.getfield 852, 3, [12, 138, 2015, 0]), (.ifCond .ne 17, 3, [127])]),
  (113, [(.aload_n 0, 1, []), (.getfield 846, 3, [12, 136, 2013, 0]), (.ifCond .le 10, 3, [127])]),
  (120, [(.aload_n 0, 1, []), (.invokevirtual 870, 3, [364, 0, 2836, 0, 0, 12]), (.goto (-18), 3, [106])]),
  (127, [(.aload_n 0, 1, []), (.aload_n 0, 1, []), (.getfield 852, 3, [12, 138, 2015, 0]), (.ifCond .ne 18, 3, [150])]),
  (135, [(.aload_n 0, 1, []), (.getfield 265, 3, [12, 127, 2004, 0]), (.aload_n 0, 1, []), (.getfield 858, 3, [12, 133, 2010, 0]), (.iconst 1, 1, []), (.isub, 1, []), (.iaload, 1, []), (.i2l, 1, []), (.goto 4, 3, [151])]),
  (150, [(.lconst 0, 1, [])]),
  (151, [(.putfield 545, 3, [12, 75, 1952, 0]), (.aload_n 0, 1, []), (.aload_n 0, 1, []), (.getfield 852, 3, [12, 138, 2015, 0]), (.putfield 548, 3, [12, 76, 1953, 0]), (.aload_n 0, 1, []), (.iconst 0, 1, []), (.putfield 551, 3, [12, 77, 1954, 0]), (.aload_n 0, 1, []), (.aload_n 0, 1, []), (.getfield 864, 3, [12, 134, 2011, 0]), (.putfield 873, 3, [12, 139, 2016, 0]), (.aload_n 0, 1, []), (.aload_n 0, 1, []), (.getfield 849, 3, [12, 135, 2012, 0]), (.putfield 876, 3, [12, 140, 2017, 0]), (.aload_n 0, 1, []), (.aload_n 0, 1, []), (.getfield 861, 3, [12, 137, 2014, 0]), (.putfield 879, 3, [12, 141, 2018, 0]), (.aload_n 0, 1, []), (.getfield 852, 3, [12, 138, 2015, 0]), (.ifCond .ne 7, 3, [202])]),
  (198, [(.iconst 0, 1, []), (.goto 4, 3, [203])]),
  (202, [(.iconst 2, 1, [])]),
  (203, [(.ireturn, 1, [])])]
set_option maxRecDepth 100000 in
theorem ok_M_call : fk_okM 362 B_M_call = true := by decide +kernel
abbrev C_M_call : fkC := [(59, [true, true, true]), (106, [true, false, false]), (127, [true, false, false]), (151, [true, false, false])]
set_option maxRecDepth 100000 in
set_option maxHeartbeats 4000000 in
theorem S_M_call {d : Nat} {a0 : Int32} {σ : fkS} {Q : Option Value → fkS → Prop} 
  (h : (Ci d 293 [.int a0, .int (σ.1 103 126)] σ (fun x2 σ1 =>
  ((x2 = 0 →
    Q (some (.int (-1 : Int32))) σ1) ∧
   (¬ x2 = 0 →
    (vp_in a0 20 ∧
    ((¬ (σ1.1 185 a0.toNatClampNeg) = 0 →
      Wq 362 (d + 1) 59 [some (.ref 103), some (.int a0), some (.int (0 : Int32))] [] (sI (sI (sI (sI (sI (sI (sI σ1 103 133 (0 : Int32)) 103 134 (0 : Int32)) 103 135 (0 : Int32)) 103 136 (0 : Int32)) 103 137 (0 : Int32)) 103 138 (0 : Int32)) 103 142 (-1 : Int32)) Q) ∧
     ((σ1.1 185 a0.toNatClampNeg) = 0 →
      Q (some (.int (-1 : Int32))) σ1)))))))) :
  Cl (d + 1) 362 [.ref 103, .int a0] σ Q := by
  exact Cl.run B_M_call C_M_call 20 fk_q362 ok_M_call rfl h
set_option maxRecDepth 100000 in
set_option maxHeartbeats 4000000 in
theorem S_M_call_59 {d : Nat} {v1 : Int32} {v2 : Int32} {σ : fkS} {Q : Option Value → fkS → Prop} 
  (h : (vp_in v1 20 ∧
  (((σ.1 184 v1.toNatClampNeg) ≤ v2 →
    (Cv d 363 [.ref 103, .int v1] σ (fun σ1 =>
    Wq 362 (d + 1) 106 [some (.ref 103), none, none] [] σ1 Q))) ∧
   (¬ (σ.1 184 v1.toNatClampNeg) ≤ v2 →
    (vp_in v2 8 ∧
    (vp_in (σ.1 103 133) 40000 ∧
    Wq 362 (d + 1) 59 [some (.ref 103), some (.int v1), some (.int (v2 + (1 : Int32)))] [] (sI (sI σ 186 ((σ.1 103 133).toNatClampNeg) ((σ.2.1 149 v2.toNatClampNeg).toInt32)) 103 133 ((σ.1 103 133) + (1 : Int32))) Q)))))) :
  Wq 362 (d + 1) 59 [some (.ref 103), some (.int v1), some (.int v2)] [] σ Q := by
  exact fk_run_sound (B := B_M_call) (C := C_M_call) (n := 20) ok_M_call h
set_option maxRecDepth 100000 in
set_option maxHeartbeats 4000000 in
theorem S_M_call_106 {d : Nat}  {σ : fkS} {Q : Option Value → fkS → Prop} 
  (h : ((¬ (σ.1 103 138) = 0 →
    Wq 362 (d + 1) 127 [some (.ref 103), none, none] [] σ Q) ∧
   ((σ.1 103 138) = 0 →
    (((σ.1 103 136) ≤ 0 →
      Wq 362 (d + 1) 127 [some (.ref 103), none, none] [] σ Q) ∧
     (¬ (σ.1 103 136) ≤ 0 →
      (Cv d 364 [.ref 103] σ (fun σ1 =>
      Wq 362 (d + 1) 106 [some (.ref 103), none, none] [] σ1 Q))))))) :
  Wq 362 (d + 1) 106 [some (.ref 103), none, none] [] σ Q := by
  exact fk_run_sound (B := B_M_call) (C := C_M_call) (n := 20) ok_M_call h
set_option maxRecDepth 100000 in
set_option maxHeartbeats 4000000 in
theorem S_M_call_127 {d : Nat}  {σ : fkS} {Q : Option Value → fkS → Prop} 
  (h : ((¬ (σ.1 103 138) = 0 →
    Wq 362 (d + 1) 151 [some (.ref 103), none, none] [.long (0 : Int64), .ref 103] σ Q) ∧
   ((σ.1 103 138) = 0 →
    (vp_in ((σ.1 103 133) - (1 : Int32)) 40000 ∧
    Wq 362 (d + 1) 151 [some (.ref 103), none, none] [.long ((σ.1 186 (((σ.1 103 133) - (1 : Int32)).toNatClampNeg)).toInt64), .ref 103] σ Q)))) :
  Wq 362 (d + 1) 127 [some (.ref 103), none, none] [] σ Q := by
  exact fk_run_sound (B := B_M_call) (C := C_M_call) (n := 20) ok_M_call h
set_option maxRecDepth 100000 in
set_option maxHeartbeats 4000000 in
theorem S_M_call_151 {d : Nat} {s1 : Int64} {σ : fkS} {Q : Option Value → fkS → Prop} 
  (h : ((¬ (σ.1 103 138) = 0 →
    Q (some (.int (2 : Int32))) (sI (sI (sI (sI (sI (sL σ 103 75 s1) 103 76 (σ.1 103 138)) 103 77 (0 : Int32)) 103 139 (σ.1 103 134)) 103 140 (σ.1 103 135)) 103 141 (σ.1 103 137))) ∧
   ((σ.1 103 138) = 0 →
    Q (some (.int (0 : Int32))) (sI (sI (sI (sI (sI (sL σ 103 75 s1) 103 76 (σ.1 103 138)) 103 77 (0 : Int32)) 103 139 (σ.1 103 134)) 103 140 (σ.1 103 135)) 103 141 (σ.1 103 137))))) :
  Wq 362 (d + 1) 151 [some (.ref 103), none, none] [.long s1, .ref 103] σ Q := by
  exact fk_run_sound (B := B_M_call) (C := C_M_call) (n := 20) ok_M_call h
def B_M_begins : fkB := [(0, [(.aload_n 0, 1, []), (.getfield 846, 3, [12, 136, 2013, 0]), (.bipush 60, 2, []), (.if_icmp .eq 13, 3, [19])]),
  (9, [(.aload_n 0, 1, []), (.getfield 849, 3, [12, 135, 2012, 0]), (.sipush 5000, 3, []), (.if_icmp .ne 22, 3, [38])]),
  (19, [(.aload_n 0, 1, []), (.aload_n 0, 1, []), (.getfield 846, 3, [12, 136, 2013, 0]), (.bipush 60, 2, []), (.if_icmp .ne 7, 3, [33])]),
  (29, [(.iconst 3, 1, []), (.goto 4, 3, [34])]),
  (33, [(.iconst 4, 1, [])]),
  (34, [(.putfield 852, 3, [12, 138, 2015, 0]), (.return_, 1, [])]),
  (38, [(.aload_n 0, 1, []), (.dup, 1, []), (.getfield 849, 3, [12, 135, 2012, 0]), (.iconst 1, 1, []), (.iadd, 1, []), (.putfield 849, 3, [12, 135, 2012, 0]), (.aload_n 0, 1, []), (.getfield 271, 3, [12, 129, 2006, 0]), (.aload_n 0, 1, []), (.getfield 846, 3, [12, 136, 2013, 0]), (.aload_n 0, 1, []), (.getfield 855, 3, [12, 142, 2019, 0]), (.iastore, 1, []), (.aload_n 0, 1, []), (.dup, 1, []), (.getfield 858, 3, [12, 133, 2010, 0]), (.aload_n 0, 1, []), (.getfield 258, 3, [12, 123, 2000, 0]), (.iload_n 1, 1, []), (.iaload, 1, []), (.isub, 1, []), (.putfield 858, 3, [12, 133, 2010, 0]), (.iconst 0, 1, []), (.istore_n 2, 1, [])]),
  (78, [(.iload_n 2, 1, []), (.aload_n 0, 1, []), (.getfield 258, 3, [12, 123, 2000, 0]), (.iload_n 1, 1, []), (.iaload, 1, []), (.if_icmp .ge 35, 3, [120])]),
  (88, [(.aload_n 0, 1, []), (.getfield 268, 3, [12, 128, 2005, 0]), (.sipush 500, 3, []), (.aload_n 0, 1, []), (.getfield 846, 3, [12, 136, 2013, 0]), (.imul, 1, []), (.iload_n 2, 1, []), (.iadd, 1, []), (.aload_n 0, 1, []), (.getfield 265, 3, [12, 127, 2004, 0]), (.aload_n 0, 1, []), (.getfield 858, 3, [12, 133, 2010, 0]), (.iload_n 2, 1, []), (.iadd, 1, []), (.iaload, 1, []), (.iastore, 1, []), (.iinc 2 1, 3, []), (.goto (-39), 3, [78])]),
  (120, [(.aload_n 0, 1, []), (.dup, 1, []), (.getfield 846, 3, [12, 136, 2013, 0]), (.iconst 1, 1, []), (.iadd, 1, []), (.putfield 846, 3, [12, 136, 2013, 0]), (.aload_n 0, 1, []), (.getfield 846, 3, [12, 136, 2013, 0]), (.aload_n 0, 1, []), (.getfield 861, 3, [12, 137, 2014, 0]), (.if_icmp .le 11, 3, [149])]),
  (141, [(.aload_n 0, 1, []), (.aload_n 0, 1, []), (.getfield 846, 3, [12, 136, 2013, 0]), (.putfield 861, 3, [12, 137, 2014, 0])]),
  (149, [(.aload_n 0, 1, []), (.aload_n 0, 1, []), (.getfield 255, 3, [12, 122, 1999, 0]), (.iload_n 1, 1, []), (.iaload, 1, []), (.putfield 855, 3, [12, 142, 2019, 0]), (.return_, 1, [])])]
set_option maxRecDepth 100000 in
theorem ok_M_begins : fk_okM 363 B_M_begins = true := by decide +kernel
abbrev C_M_begins : fkC := [(78, [true, true, true])]
set_option maxRecDepth 100000 in
set_option maxHeartbeats 4000000 in
theorem S_M_begins {d : Nat} {a0 : Int32} {σ : fkS} {Q : Option Value → fkS → Prop} 
  (h : (((σ.1 103 136) = (60 : Int32) →
    ((¬ (σ.1 103 136) = (60 : Int32) →
      Q none (sI σ 103 138 (4 : Int32))) ∧
     ((σ.1 103 136) = (60 : Int32) →
      Q none (sI σ 103 138 (3 : Int32))))) ∧
   (¬ (σ.1 103 136) = (60 : Int32) →
    ((¬ (σ.1 103 135) = (5000 : Int32) →
      (vp_in (σ.1 103 136) 61 ∧
      (vp_in a0 20 ∧
      Wq 363 d 78 [some (.ref 103), some (.int a0), some (.int (0 : Int32))] [] (sI (sI (sI σ 103 135 ((σ.1 103 135) + (1 : Int32))) 188 ((σ.1 103 136).toNatClampNeg) (σ.1 103 142)) 103 133 ((σ.1 103 133) - (σ.1 184 a0.toNatClampNeg))) Q))) ∧
     ((σ.1 103 135) = (5000 : Int32) →
      ((¬ (σ.1 103 136) = (60 : Int32) →
        Q none (sI σ 103 138 (4 : Int32))) ∧
       ((σ.1 103 136) = (60 : Int32) →
        Q none (sI σ 103 138 (3 : Int32))))))))) :
  Cl d 363 [.ref 103, .int a0] σ Q := by
  exact Cl.run B_M_begins C_M_begins 15 fk_q363 ok_M_begins rfl h
set_option maxRecDepth 100000 in
set_option maxHeartbeats 4000000 in
theorem S_M_begins_78 {d : Nat} {v1 : Int32} {v2 : Int32} {σ : fkS} {Q : Option Value → fkS → Prop} 
  (h : (vp_in v1 20 ∧
  (((σ.1 184 v1.toNatClampNeg) ≤ v2 →
    ((((σ.1 103 136) + (1 : Int32)) ≤ (σ.1 103 137) →
      (vp_in v1 20 ∧
      Q none (sI (sI σ 103 136 ((σ.1 103 136) + (1 : Int32))) 103 142 (σ.1 183 v1.toNatClampNeg)))) ∧
     (¬ ((σ.1 103 136) + (1 : Int32)) ≤ (σ.1 103 137) →
      (vp_in v1 20 ∧
      Q none (sI (sI (sI σ 103 136 ((σ.1 103 136) + (1 : Int32))) 103 137 ((σ.1 103 136) + (1 : Int32))) 103 142 (σ.1 183 v1.toNatClampNeg)))))) ∧
   (¬ (σ.1 184 v1.toNatClampNeg) ≤ v2 →
    (vp_in ((σ.1 103 133) + v2) 40000 ∧
    (vp_in (((500 : Int32) * (σ.1 103 136)) + v2) 30500 ∧
    Wq 363 d 78 [some (.ref 103), some (.int v1), some (.int (v2 + (1 : Int32)))] [] (sI σ 187 ((((500 : Int32) * (σ.1 103 136)) + v2).toNatClampNeg) (σ.1 186 (((σ.1 103 133) + v2).toNatClampNeg))) Q)))))) :
  Wq 363 d 78 [some (.ref 103), some (.int v1), some (.int v2)] [] σ Q := by
  exact fk_run_sound (B := B_M_begins) (C := C_M_begins) (n := 15) ok_M_begins h
def B_M_one : fkB := [(0, [(.aload_n 0, 1, []), (.getfield 246, 3, [12, 119, 1996, 0]), (.aload_n 0, 1, []), (.getfield 855, 3, [12, 142, 2019, 0]), (.iaload, 1, []), (.istore_n 1, 1, []), (.aload_n 0, 1, []), (.getfield 249, 3, [12, 120, 1997, 0]), (.aload_n 0, 1, []), (.getfield 855, 3, [12, 142, 2019, 0]), (.iaload, 1, []), (.istore_n 2, 1, []), (.sipush 500, 3, []), (.aload_n 0, 1, []), (.getfield 846, 3, [12, 136, 2013, 0]), (.iconst 1, 1, []), (.isub, 1, []), (.imul, 1, []), (.istore_n 3, 1, []), (.aload_n 0, 1, []), (.getfield 252, 3, [12, 121, 1998, 0]), (.aload_n 0, 1, []), (.getfield 855, 3, [12, 142, 2019, 0]), (.iaload, 1, []), (.istore 4, 2, []), (.aload_n 0, 1, []), (.dup, 1, []), (.getfield 855, 3, [12, 142, 2019, 0]), (.iconst 1, 1, []), (.iadd, 1, []), (.putfield 855, 3, [12, 142, 2019, 0]), (.iload_n 1, 1, []), (.tableswitch 395 0 10 #[59, 82, 112, 142, 168, 217, 247, 255, 262, 270, 324], 59, [448, 112, 135, 165, 195, 221, 270, 300, 308, 315, 323, 377])]),
  (112, [(.aload_n 0, 1, []), (.getfield 265, 3, [12, 127, 2004, 0]), (.aload_n 0, 1, []), (.getfield 858, 3, [12, 133, 2010, 0]), (.iload_n 2, 1, []), (.iastore, 1, []), (.aload_n 0, 1, []), (.dup, 1, []), (.getfield 858, 3, [12, 133, 2010, 0]), (.iconst 1, 1, []), (.iadd, 1, []), (.putfield 858, 3, [12, 133, 2010, 0]), (.goto 339, 3, [471])]),
  (135, [(.aload_n 0, 1, []), (.getfield 265, 3, [12, 127, 2004, 0]), (.aload_n 0, 1, []), (.getfield 858, 3, [12, 133, 2010, 0]), (.aload_n 0, 1, []), (.getfield 268, 3, [12, 128, 2005, 0]), (.iload_n 3, 1, []), (.iload_n 2, 1, []), (.iadd, 1, []), (.iaload, 1, []), (.iastore, 1, []), (.aload_n 0, 1, []), (.dup, 1, []), (.getfield 858, 3, [12, 133, 2010, 0]), (.iconst 1, 1, []), (.iadd, 1, []), (.putfield 858, 3, [12, 133, 2010, 0]), (.goto 309, 3, [471])]),
  (165, [(.aload_n 0, 1, []), (.dup, 1, []), (.getfield 858, 3, [12, 133, 2010, 0]), (.iconst 1, 1, []), (.isub, 1, []), (.putfield 858, 3, [12, 133, 2010, 0]), (.aload_n 0, 1, []), (.getfield 268, 3, [12, 128, 2005, 0]), (.iload_n 3, 1, []), (.iload_n 2, 1, []), (.iadd, 1, []), (.aload_n 0, 1, []), (.getfield 265, 3, [12, 127, 2004, 0]), (.aload_n 0, 1, []), (.getfield 858, 3, [12, 133, 2010, 0]), (.iaload, 1, []), (.iastore, 1, []), (.goto 279, 3, [471])]),
  (195, [(.aload_n 0, 1, []), (.getfield 265, 3, [12, 127, 2004, 0]), (.aload_n 0, 1, []), (.getfield 858, 3, [12, 133, 2010, 0]), (.iconst 1, 1, []), (.isub, 1, []), (.aload_n 0, 1, []), (.getfield 265, 3, [12, 127, 2004, 0]), (.aload_n 0, 1, []), (.getfield 858, 3, [12, 133, 2010, 0]), (.iconst 1, 1, []), (.isub, 1, []), (.iaload, 1, []), (.ineg, 1, []), (.iastore, 1, []), (.goto 253, 3, [471])]),
  (221, [(.aload_n 0, 1, []), (.dup, 1, []), (.getfield 858, 3, [12, 133, 2010, 0]), (.iconst 1, 1, []), (.isub, 1, []), (.putfield 858, 3, [12, 133, 2010, 0]), (.aload_n 0, 1, []), (.getfield 265, 3, [12, 127, 2004, 0]), (.aload_n 0, 1, []), (.getfield 858, 3, [12, 133, 2010, 0]), (.iconst 1, 1, []), (.isub, 1, []), (.aload_n 0, 1, []), (.iload_n 2, 1, []), (.aload_n 0, 1, []), (.getfield 265, 3, [12, 127, 2004, 0]), (.aload_n 0, 1, []), (.getfield 858, 3, [12, 133, 2010, 0]), (.iconst 1, 1, []), (.isub, 1, []), (.iaload, 1, []), (.aload_n 0, 1, []), (.getfield 265, 3, [12, 127, 2004, 0]), (.aload_n 0, 1, []), (.getfield 858, 3, [12, 133, 2010, 0]), (.iaload, 1, []), (.invokevirtual 882, 3, [365, 3, 2840, 0, 1, 12]), (.iastore, 1, []), (.goto 204, 3, [471])]),
  (270, [(.aload_n 0, 1, []), (.dup, 1, []), (.getfield 858, 3, [12, 133, 2010, 0]), (.iconst 1, 1, []), (.isub, 1, []), (.putfield 858, 3, [12, 133, 2010, 0]), (.aload_n 0, 1, []), (.getfield 265, 3, [12, 127, 2004, 0]), (.aload_n 0, 1, []), (.getfield 858, 3, [12, 133, 2010, 0]), (.iaload, 1, []), (.ifCond .ne 182, 3, [471])]),
  (292, [(.aload_n 0, 1, []), (.iload_n 2, 1, []), (.putfield 855, 3, [12, 142, 2019, 0]), (.goto 174, 3, [471])]),
  (300, [(.aload_n 0, 1, []), (.iload_n 2, 1, []), (.putfield 855, 3, [12, 142, 2019, 0]), (.goto 166, 3, [471])]),
  (308, [(.aload_n 0, 1, []), (.invokevirtual 885, 3, [366, 0, 2844, 0, 0, 12]), (.goto 159, 3, [471])]),
  (315, [(.aload_n 0, 1, []), (.iload_n 2, 1, []), (.invokevirtual 867, 3, [363, 1, 2832, 0, 0, 12]), (.goto 151, 3, [471])]),
  (323, [(.aload_n 0, 1, []), (.getfield 265, 3, [12, 127, 2004, 0]), (.aload_n 0, 1, []), (.getfield 858, 3, [12, 133, 2010, 0]), (.iconst 2, 1, []), (.isub, 1, []), (.iaload, 1, []), (.istore 5, 2, []), (.aload_n 0, 1, []), (.getfield 265, 3, [12, 127, 2004, 0]), (.aload_n 0, 1, []), (.getfield 858, 3, [12, 133, 2010, 0]), (.iconst 2, 1, []), (.isub, 1, []), (.aload_n 0, 1, []), (.getfield 265, 3, [12, 127, 2004, 0]), (.aload_n 0, 1, []), (.getfield 858, 3, [12, 133, 2010, 0]), (.iconst 1, 1, []), (.isub, 1, []), (.iaload, 1, []), (.iastore, 1, []), (.aload_n 0, 1, []), (.dup, 1, []), (.getfield 858, 3, [12, 133, 2010, 0]), (.iconst 1, 1, []), (.isub, 1, []), (.putfield 858, 3, [12, 133, 2010, 0]), (.aload_n 0, 1, []), (.iload 5, 2, []), (.invokevirtual 867, 3, [363, 1, 2832, 0, 0, 12]), (.goto 97, 3, [471])]),
  (377, [(.aload_n 0, 1, []), (.dup, 1, []), (.getfield 858, 3, [12, 133, 2010, 0]), (.iconst 1, 1, []), (.isub, 1, []), (.putfield 858, 3, [12, 133, 2010, 0]), (.aload_n 0, 1, []), (.getfield 265, 3, [12, 127, 2004, 0]), (.aload_n 0, 1, []), (.getfield 858, 3, [12, 133, 2010, 0]), (.iaload, 1, []), (.istore 6, 2, []), (.iload 6, 2, []), (.ifCond .ge 6, 3, [406])]),
  (403, [(.goto 68, 3, [471])]),
  (406, [(.aload_n 0, 1, []), (.getfield 268, 3, [12, 128, 2005, 0]), (.iload_n 3, 1, []), (.iload 4, 2, []), (.iadd, 1, []), (.aload_n 0, 1, []), (.getfield 274, 3, [12, 130, 2007, 0]), (.iload 6, 2, []), (.iaload, 1, []), (.iastore, 1, []), (.aload_n 0, 1, []), (.getfield 268, 3, [12, 128, 2005, 0]), (.iload_n 3, 1, []), (.iload 4, 2, []), (.iadd, 1, []), (.iconst 1, 1, []), (.iadd, 1, []), (.aload_n 0, 1, []), (.getfield 277, 3, [12, 131, 2008, 0]), (.iload 6, 2, []), (.iaload, 1, []), (.iastore, 1, []), (.aload_n 0, 1, []), (.iload_n 2, 1, []), (.putfield 855, 3, [12, 142, 2019, 0]), (.goto 26, 3, [471])]),
  (448, [(.aload_n 0, 1, []), (.dup, 1, []), (.getfield 846, 3, [12, 136, 2013, 0]), (.iconst 1, 1, []), (.isub, 1, []), (.putfield 846, 3, [12, 136, 2013, 0]), (.aload_n 0, 1, []), (.aload_n 0, 1, []), (.getfield 271, 3, [12, 129, 2006, 0]), (.aload_n 0, 1, []), (.getfield 846, 3, [12, 136, 2013, 0]), (.iaload, 1, []), (.putfield 855, 3, [12, 142, 2019, 0])]),
  (471, [(.return_, 1, [])])]
set_option maxRecDepth 100000 in
theorem ok_M_one : fk_okM 364 B_M_one = true := by decide +kernel
abbrev C_M_one : fkC := []
set_option maxRecDepth 100000 in
set_option maxHeartbeats 4000000 in
theorem S_M_one {d : Nat}  {σ : fkS} {Q : Option Value → fkS → Prop} 
  (h : (vp_in (σ.1 103 142) 4000 ∧
  (vp_in (σ.1 103 142) 4000 ∧
  (vp_in (σ.1 103 142) 4000 ∧
  ((((σ.1 180 ((σ.1 103 142).toNatClampNeg)).toInt < 0 ∨ 10 < (σ.1 180 ((σ.1 103 142).toNatClampNeg)).toInt) →
    (vp_in ((σ.1 103 136) - (1 : Int32)) 61 ∧
    Q none (sI (sI (sI σ 103 142 ((σ.1 103 142) + (1 : Int32))) 103 136 ((σ.1 103 136) - (1 : Int32))) 103 142 (σ.1 188 (((σ.1 103 136) - (1 : Int32)).toNatClampNeg))))) ∧
   ((σ.1 180 ((σ.1 103 142).toNatClampNeg)).toInt = 0 →
    (vp_in (σ.1 103 133) 40000 ∧
    Q none (sI (sI (sI σ 103 142 ((σ.1 103 142) + (1 : Int32))) 186 ((σ.1 103 133).toNatClampNeg) (σ.1 181 ((σ.1 103 142).toNatClampNeg))) 103 133 ((σ.1 103 133) + (1 : Int32))))) ∧
   ((σ.1 180 ((σ.1 103 142).toNatClampNeg)).toInt = 1 →
    (vp_in (((500 : Int32) * ((σ.1 103 136) - (1 : Int32))) + (σ.1 181 ((σ.1 103 142).toNatClampNeg))) 30500 ∧
    (vp_in (σ.1 103 133) 40000 ∧
    Q none (sI (sI (sI σ 103 142 ((σ.1 103 142) + (1 : Int32))) 186 ((σ.1 103 133).toNatClampNeg) (σ.1 187 ((((500 : Int32) * ((σ.1 103 136) - (1 : Int32))) + (σ.1 181 ((σ.1 103 142).toNatClampNeg))).toNatClampNeg))) 103 133 ((σ.1 103 133) + (1 : Int32)))))) ∧
   ((σ.1 180 ((σ.1 103 142).toNatClampNeg)).toInt = 2 →
    (vp_in ((σ.1 103 133) - (1 : Int32)) 40000 ∧
    (vp_in (((500 : Int32) * ((σ.1 103 136) - (1 : Int32))) + (σ.1 181 ((σ.1 103 142).toNatClampNeg))) 30500 ∧
    Q none (sI (sI (sI σ 103 142 ((σ.1 103 142) + (1 : Int32))) 103 133 ((σ.1 103 133) - (1 : Int32))) 187 ((((500 : Int32) * ((σ.1 103 136) - (1 : Int32))) + (σ.1 181 ((σ.1 103 142).toNatClampNeg))).toNatClampNeg) (σ.1 186 (((σ.1 103 133) - (1 : Int32)).toNatClampNeg)))))) ∧
   ((σ.1 180 ((σ.1 103 142).toNatClampNeg)).toInt = 3 →
    (vp_in ((σ.1 103 133) - (1 : Int32)) 40000 ∧
    (vp_in ((σ.1 103 133) - (1 : Int32)) 40000 ∧
    Q none (sI (sI σ 103 142 ((σ.1 103 142) + (1 : Int32))) 186 (((σ.1 103 133) - (1 : Int32)).toNatClampNeg) (-(σ.1 186 (((σ.1 103 133) - (1 : Int32)).toNatClampNeg))))))) ∧
   ((σ.1 180 ((σ.1 103 142).toNatClampNeg)).toInt = 4 →
    (vp_in (((σ.1 103 133) - (1 : Int32)) - (1 : Int32)) 40000 ∧
    (vp_in ((σ.1 103 133) - (1 : Int32)) 40000 ∧
    (Ci d 365 [.ref 103, .int (σ.1 181 ((σ.1 103 142).toNatClampNeg)), .int (σ.1 186 ((((σ.1 103 133) - (1 : Int32)) - (1 : Int32)).toNatClampNeg)), .int (σ.1 186 (((σ.1 103 133) - (1 : Int32)).toNatClampNeg))] (sI (sI σ 103 142 ((σ.1 103 142) + (1 : Int32))) 103 133 ((σ.1 103 133) - (1 : Int32))) (fun x2 σ1 =>
    (vp_in (((σ.1 103 133) - (1 : Int32)) - (1 : Int32)) 40000 ∧
    Q none (sI σ1 186 ((((σ.1 103 133) - (1 : Int32)) - (1 : Int32)).toNatClampNeg) x2))))))) ∧
   ((σ.1 180 ((σ.1 103 142).toNatClampNeg)).toInt = 5 →
    (vp_in ((σ.1 103 133) - (1 : Int32)) 40000 ∧
    ((¬ (σ.1 186 (((σ.1 103 133) - (1 : Int32)).toNatClampNeg)) = 0 →
      Q none (sI (sI σ 103 142 ((σ.1 103 142) + (1 : Int32))) 103 133 ((σ.1 103 133) - (1 : Int32)))) ∧
     ((σ.1 186 (((σ.1 103 133) - (1 : Int32)).toNatClampNeg)) = 0 →
      Q none (sI (sI (sI σ 103 142 ((σ.1 103 142) + (1 : Int32))) 103 133 ((σ.1 103 133) - (1 : Int32))) 103 142 (σ.1 181 ((σ.1 103 142).toNatClampNeg))))))) ∧
   ((σ.1 180 ((σ.1 103 142).toNatClampNeg)).toInt = 6 →
    Q none (sI (sI σ 103 142 ((σ.1 103 142) + (1 : Int32))) 103 142 (σ.1 181 ((σ.1 103 142).toNatClampNeg)))) ∧
   ((σ.1 180 ((σ.1 103 142).toNatClampNeg)).toInt = 7 →
    (Cv d 366 [.ref 103] (sI σ 103 142 ((σ.1 103 142) + (1 : Int32))) (fun σ3 =>
    Q none σ3))) ∧
   ((σ.1 180 ((σ.1 103 142).toNatClampNeg)).toInt = 8 →
    (Cv d 363 [.ref 103, .int (σ.1 181 ((σ.1 103 142).toNatClampNeg))] (sI σ 103 142 ((σ.1 103 142) + (1 : Int32))) (fun σ4 =>
    Q none σ4))) ∧
   ((σ.1 180 ((σ.1 103 142).toNatClampNeg)).toInt = 9 →
    (vp_in ((σ.1 103 133) - (2 : Int32)) 40000 ∧
    (vp_in ((σ.1 103 133) - (1 : Int32)) 40000 ∧
    (vp_in ((σ.1 103 133) - (2 : Int32)) 40000 ∧
    (Cv d 363 [.ref 103, .int (σ.1 186 (((σ.1 103 133) - (2 : Int32)).toNatClampNeg))] (sI (sI (sI σ 103 142 ((σ.1 103 142) + (1 : Int32))) 186 (((σ.1 103 133) - (2 : Int32)).toNatClampNeg) (σ.1 186 (((σ.1 103 133) - (1 : Int32)).toNatClampNeg))) 103 133 ((σ.1 103 133) - (1 : Int32))) (fun σ5 =>
    Q none σ5)))))) ∧
   ((σ.1 180 ((σ.1 103 142).toNatClampNeg)).toInt = 10 →
    (vp_in ((σ.1 103 133) - (1 : Int32)) 40000 ∧
    ((0 ≤ (σ.1 186 (((σ.1 103 133) - (1 : Int32)).toNatClampNeg)) →
      (vp_in (σ.1 186 (((σ.1 103 133) - (1 : Int32)).toNatClampNeg)) 500 ∧
      (vp_in (((500 : Int32) * ((σ.1 103 136) - (1 : Int32))) + (σ.1 182 ((σ.1 103 142).toNatClampNeg))) 30500 ∧
      (vp_in (σ.1 186 (((σ.1 103 133) - (1 : Int32)).toNatClampNeg)) 500 ∧
      (vp_in ((((500 : Int32) * ((σ.1 103 136) - (1 : Int32))) + (σ.1 182 ((σ.1 103 142).toNatClampNeg))) + (1 : Int32)) 30500 ∧
      Q none (sI (sI (sI (sI (sI σ 103 142 ((σ.1 103 142) + (1 : Int32))) 103 133 ((σ.1 103 133) - (1 : Int32))) 187 ((((500 : Int32) * ((σ.1 103 136) - (1 : Int32))) + (σ.1 182 ((σ.1 103 142).toNatClampNeg))).toNatClampNeg) (σ.1 189 ((σ.1 186 (((σ.1 103 133) - (1 : Int32)).toNatClampNeg)).toNatClampNeg))) 187 (((((500 : Int32) * ((σ.1 103 136) - (1 : Int32))) + (σ.1 182 ((σ.1 103 142).toNatClampNeg))) + (1 : Int32)).toNatClampNeg) (σ.1 190 ((σ.1 186 (((σ.1 103 133) - (1 : Int32)).toNatClampNeg)).toNatClampNeg))) 103 142 (σ.1 181 ((σ.1 103 142).toNatClampNeg)))))))) ∧
     (¬ 0 ≤ (σ.1 186 (((σ.1 103 133) - (1 : Int32)).toNatClampNeg)) →
      Q none (sI (sI σ 103 142 ((σ.1 103 142) + (1 : Int32))) 103 133 ((σ.1 103 133) - (1 : Int32))))))) ∧ True))))) :
  Cl (d + 1) 364 [.ref 103] σ Q := by
  exact Cl.run B_M_one C_M_one 20 fk_q364 ok_M_one rfl h
def B_M_signOf : fkB := [(0, [(.iload_n 1, 1, []), (.lookupswitch 85 #[(42, 59), (43, 51), (45, 55), (60, 63), (69, 74)], 51, [86, 60, 52, 56, 64, 75])]),
  (52, [(.iload_n 2, 1, []), (.iload_n 3, 1, []), (.iadd, 1, []), (.ireturn, 1, [])]),
  (56, [(.iload_n 2, 1, []), (.iload_n 3, 1, []), (.isub, 1, []), (.ireturn, 1, [])]),
  (60, [(.iload_n 2, 1, []), (.iload_n 3, 1, []), (.imul, 1, []), (.ireturn, 1, [])]),
  (64, [(.iload_n 2, 1, []), (.iload_n 3, 1, []), (.if_icmp .ge 7, 3, [73])]),
  (69, [(.iconst 1, 1, []), (.goto 4, 3, [74])]),
  (73, [(.iconst 0, 1, [])]),
  (74, [(.ireturn, 1, [])]),
  (75, [(.iload_n 2, 1, []), (.iload_n 3, 1, []), (.if_icmp .ne 7, 3, [84])]),
  (80, [(.iconst 1, 1, []), (.goto 4, 3, [85])]),
  (84, [(.iconst 0, 1, [])]),
  (85, [(.ireturn, 1, [])]),
  (86, [(.iload_n 3, 1, []), (.ifCond .ne 10, 3, [97])]),
  (90, [(.aload_n 0, 1, []), (.iconst 1, 1, []), (.putfield 852, 3, [12, 138, 2015, 0]), (.iconst 0, 1, []), (.ireturn, 1, [])]),
  (97, [(.iload_n 1, 1, []), (.bipush 47, 2, []), (.if_icmp .ne 9, 3, [109])]),
  (103, [(.iload_n 2, 1, []), (.iload_n 3, 1, []), (.idiv, 1, []), (.goto 6, 3, [112])]),
  (109, [(.iload_n 2, 1, []), (.iload_n 3, 1, []), (.irem, 1, [])]),
  (112, [(.ireturn, 1, [])])]
set_option maxRecDepth 100000 in
theorem ok_M_signOf : fk_okM 365 B_M_signOf = true := by decide +kernel
abbrev C_M_signOf : fkC := []
set_option maxRecDepth 100000 in
set_option maxHeartbeats 4000000 in
theorem S_M_signOf {d : Nat} {a0 : Int32} {a1 : Int32} {a2 : Int32} {σ : fkS} {Q : Option Value → fkS → Prop} 
  (h : ((a0.toInt = 42 →
    Q (some (.int (a1 * a2))) σ) ∧
   (¬ a0.toInt = 42 →
   ((a0.toInt = 43 →
    Q (some (.int (a1 + a2))) σ) ∧
   (¬ a0.toInt = 43 →
   ((a0.toInt = 45 →
    Q (some (.int (a1 - a2))) σ) ∧
   (¬ a0.toInt = 45 →
   ((a0.toInt = 60 →
    ((a2 ≤ a1 →
      Q (some (.int (0 : Int32))) σ) ∧
     (¬ a2 ≤ a1 →
      Q (some (.int (1 : Int32))) σ))) ∧
   (¬ a0.toInt = 60 →
   ((a0.toInt = 69 →
    ((¬ a1 = a2 →
      Q (some (.int (0 : Int32))) σ) ∧
     (a1 = a2 →
      Q (some (.int (1 : Int32))) σ))) ∧
   (¬ a0.toInt = 69 →
   ((¬ a2 = 0 →
      ((¬ a0 = (47 : Int32) →
        (¬ a2 = 0 ∧
        Q (some (.int (a1 - a1 / a2 * a2))) σ)) ∧
       (a0 = (47 : Int32) →
        (¬ a2 = 0 ∧
        Q (some (.int (a1 / a2))) σ)))) ∧
     (a2 = 0 →
      Q (some (.int (0 : Int32))) (sI σ 103 138 (1 : Int32))))))))))))))) :
  Cl d 365 [.ref 103, .int a0, .int a1, .int a2] σ Q := by
  exact Cl.run B_M_signOf C_M_signOf 21 fk_q365 ok_M_signOf rfl h
def B_M_pairUp : fkB := [(0, [(.aload_n 0, 1, []), (.getfield 864, 3, [12, 134, 2011, 0]), (.sipush 500, 3, []), (.if_icmp .ne 9, 3, [16])]),
  (10, [(.aload_n 0, 1, []), (.iconst 2, 1, []), (.putfield 852, 3, [12, 138, 2015, 0]), (.return_, 1, [])]),
  (16, [(.aload_n 0, 1, []), (.dup, 1, []), (.getfield 858, 3, [12, 133, 2010, 0]), (.iconst 1, 1, []), (.isub, 1, []), (.putfield 858, 3, [12, 133, 2010, 0]), (.aload_n 0, 1, []), (.getfield 274, 3, [12, 130, 2007, 0]), (.aload_n 0, 1, []), (.getfield 864, 3, [12, 134, 2011, 0]), (.aload_n 0, 1, []), (.getfield 265, 3, [12, 127, 2004, 0]), (.aload_n 0, 1, []), (.getfield 858, 3, [12, 133, 2010, 0]), (.iconst 1, 1, []), (.isub, 1, []), (.iaload, 1, []), (.iastore, 1, []), (.aload_n 0, 1, []), (.getfield 277, 3, [12, 131, 2008, 0]), (.aload_n 0, 1, []), (.getfield 864, 3, [12, 134, 2011, 0]), (.aload_n 0, 1, []), (.getfield 265, 3, [12, 127, 2004, 0]), (.aload_n 0, 1, []), (.getfield 858, 3, [12, 133, 2010, 0]), (.iaload, 1, []), (.iastore, 1, []), (.aload_n 0, 1, []), (.getfield 265, 3, [12, 127, 2004, 0]), (.aload_n 0, 1, []), (.getfield 858, 3, [12, 133, 2010, 0]), (.iconst 1, 1, []), (.isub, 1, []), (.aload_n 0, 1, []), (.getfield 864, 3, [12, 134, 2011, 0]), (.iastore, 1, []), (.aload_n 0, 1, []), (.dup, 1, []), (.getfield 864, 3, [12, 134, 2011, 0]), (.iconst 1, 1, []), (.iadd, 1, []), (.putfield 864, 3, [12, 134, 2011, 0]), (.return_, 1, [])])]
set_option maxRecDepth 100000 in
theorem ok_M_pairUp : fk_okM 366 B_M_pairUp = true := by decide +kernel
abbrev C_M_pairUp : fkC := []
set_option maxRecDepth 100000 in
set_option maxHeartbeats 4000000 in
theorem S_M_pairUp {d : Nat}  {σ : fkS} {Q : Option Value → fkS → Prop} 
  (h : ((¬ (σ.1 103 134) = (500 : Int32) →
    (vp_in (((σ.1 103 133) - (1 : Int32)) - (1 : Int32)) 40000 ∧
    (vp_in (σ.1 103 134) 500 ∧
    (vp_in ((σ.1 103 133) - (1 : Int32)) 40000 ∧
    (vp_in (σ.1 103 134) 500 ∧
    (vp_in (((σ.1 103 133) - (1 : Int32)) - (1 : Int32)) 40000 ∧
    Q none (sI (sI (sI (sI (sI σ 103 133 ((σ.1 103 133) - (1 : Int32))) 189 ((σ.1 103 134).toNatClampNeg) (σ.1 186 ((((σ.1 103 133) - (1 : Int32)) - (1 : Int32)).toNatClampNeg))) 190 ((σ.1 103 134).toNatClampNeg) (σ.1 186 (((σ.1 103 133) - (1 : Int32)).toNatClampNeg))) 186 ((((σ.1 103 133) - (1 : Int32)) - (1 : Int32)).toNatClampNeg) (σ.1 103 134)) 103 134 ((σ.1 103 134) + (1 : Int32))))))))) ∧
   ((σ.1 103 134) = (500 : Int32) →
    Q none (sI σ 103 138 (2 : Int32))))) :
  Cl d 366 [.ref 103] σ Q := by
  exact Cl.run B_M_pairUp C_M_pairUp 6 fk_q366 ok_M_pairUp rfl h
def B_M_spent : fkB := [(0, [(.iload_n 1, 1, []), (.ifCond .ne 10, 3, [11])]),
  (4, [(.aload_n 0, 1, []), (.getfield 873, 3, [12, 139, 2016, 0]), (.goto 28, 3, [36])]),
  (11, [(.iload_n 1, 1, []), (.iconst 1, 1, []), (.if_icmp .ne 10, 3, [23])]),
  (16, [(.aload_n 0, 1, []), (.getfield 876, 3, [12, 140, 2017, 0]), (.goto 16, 3, [36])]),
  (23, [(.iload_n 1, 1, []), (.iconst 2, 1, []), (.if_icmp .ne 10, 3, [35])]),
  (28, [(.aload_n 0, 1, []), (.getfield 879, 3, [12, 141, 2018, 0]), (.goto 4, 3, [36])]),
  (35, [(.iconst 0, 1, [])]),
  (36, [(.ireturn, 1, [])])]
set_option maxRecDepth 100000 in
theorem ok_M_spent : fk_okM 367 B_M_spent = true := by decide +kernel
abbrev C_M_spent : fkC := []
set_option maxRecDepth 100000 in
set_option maxHeartbeats 4000000 in
theorem S_M_spent {d : Nat} {a0 : Int32} {σ : fkS} {Q : Option Value → fkS → Prop} 
  (h : ((¬ a0 = 0 →
    ((¬ a0 = (1 : Int32) →
      ((¬ a0 = (2 : Int32) →
        Q (some (.int (0 : Int32))) σ) ∧
       (a0 = (2 : Int32) →
        Q (some (.int (σ.1 103 141))) σ))) ∧
     (a0 = (1 : Int32) →
      Q (some (.int (σ.1 103 140))) σ))) ∧
   (a0 = 0 →
    Q (some (.int (σ.1 103 139))) σ))) :
  Cl d 367 [.ref 103, .int a0] σ Q := by
  exact Cl.run B_M_spent C_M_spent 11 fk_q367 ok_M_spent rfl h
