/-! THE WALKS of the methods as predicates, by program (wip/whole/gen/gen_S.py). Cells: wip/whole/gen/cells.py prints them. -/
-- not here: 
def B_M_module : fkB := [(0, [(.iload_n 1, 1, []), (.ifCond .lt 11, 3, [12])]),
  (4, [(.iload_n 1, 1, []), (.aload_n 0, 1, []), (.getfield 280, 3, [12, 1, 1878, 0]), (.if_icmp .le 5, 3, [14])]),
  (12, [(.iconst 0, 1, []), (.ireturn, 1, [])]),
  (14, [(.aload_n 0, 1, []), (.iconst 1, 1, []), (.aload_n 0, 1, []), (.getfield 493, 3, [12, 37, 1914, 0]), (.isub, 1, []), (.putfield 293, 3, [12, 38, 1915, 0]), (.iconst 0, 1, []), (.istore_n 2, 1, [])]),
  (26, [(.iload_n 2, 1, []), (.iload_n 1, 1, []), (.if_icmp .ge 30, 3, [58])]),
  (31, [(.aload_n 0, 1, []), (.getfield 17, 3, [12, 3, 1880, 0]), (.sipush 4000, 3, []), (.aload_n 0, 1, []), (.getfield 293, 3, [12, 38, 1915, 0]), (.imul, 1, []), (.iload_n 2, 1, []), (.iadd, 1, []), (.aload_n 0, 1, []), (.getfield 9, 3, [12, 0, 1877, 0]), (.iload_n 2, 1, []), (.iaload, 1, []), (.iastore, 1, []), (.iinc 2 1, 3, []), (.goto (-29), 3, [26])]),
  (58, [(.aload_n 0, 1, []), (.iconst 0, 1, []), (.putfield 280, 3, [12, 1, 1878, 0]), (.aload_n 0, 1, []), (.iconst (-1), 1, []), (.putfield 13, 3, [12, 2, 1879, 0]), (.aload_n 0, 1, []), (.iload_n 1, 1, []), (.putfield 432, 3, [12, 58, 1935, 0]), (.aload_n 0, 1, []), (.iload_n 1, 1, []), (.invokevirtual 496, 3, [240, 1, 2319, 0, 0, 12]), (.aload_n 0, 1, []), (.getfield 287, 3, [12, 42, 1919, 0]), (.ifCond .eq 16, 3, [98])]),
  (85, [(.aload_n 0, 1, []), (.aload_n 0, 1, []), (.getfield 290, 3, [12, 43, 1920, 0]), (.putfield 13, 3, [12, 2, 1879, 0]), (.aload_n 0, 1, []), (.getfield 287, 3, [12, 42, 1919, 0]), (.ireturn, 1, [])]),
  (98, [(.aload_n 0, 1, []), (.invokevirtual 499, 3, [265, 0, 2419, 0, 1, 12]), (.istore_n 2, 1, []), (.iload_n 2, 1, []), (.ifCond .eq 5, 3, [109])]),
  (107, [(.iload_n 2, 1, []), (.ireturn, 1, [])]),
  (109, [(.iconst 0, 1, []), (.istore_n 3, 1, [])]),
  (111, [(.iload_n 3, 1, []), (.aload_n 0, 1, []), (.getfield 47, 3, [12, 13, 1890, 0]), (.aload_n 0, 1, []), (.getfield 293, 3, [12, 38, 1915, 0]), (.iaload, 1, []), (.if_icmp .ge 55, 3, [176])]),
  (124, [(.aload_n 0, 1, []), (.getfield 75, 3, [12, 22, 1899, 0]), (.bipush 60, 2, []), (.aload_n 0, 1, []), (.getfield 293, 3, [12, 38, 1915, 0]), (.imul, 1, []), (.iload_n 3, 1, []), (.iadd, 1, []), (.laload, 1, []), (.aload_n 0, 1, []), (.getfield 102, 3, [12, 31, 1908, 0]), (.bipush 60, 2, []), (.aload_n 0, 1, []), (.getfield 293, 3, [12, 38, 1915, 0]), (.imul, 1, []), (.iload_n 3, 1, []), (.iadd, 1, []), (.iaload, 1, []), (.i2l, 1, []), (.ladd, 1, []), (.aload_n 0, 1, []), (.getfield 57, 3, [12, 16, 1893, 0]), (.aload_n 0, 1, []), (.getfield 293, 3, [12, 38, 1915, 0]), (.laload, 1, []), (.lcmp, 1, []), (.ifCond .le 6, 3, [170])]),
  (167, [(.bipush (-4), 2, []), (.ireturn, 1, [])]),
  (170, [(.iinc 3 1, 3, []), (.goto (-62), 3, [111])]),
  (176, [(.aload_n 0, 1, []), (.invokevirtual 502, 3, [289, 0, 2516, 0, 0, 12]), (.iconst 1, 1, []), (.ireturn, 1, [])])]
set_option maxRecDepth 100000 in
theorem ok_M_module : fk_okM 239 B_M_module = true := by decide +kernel
abbrev C_M_module : fkC := [(26, [true, true, true, false]), (111, [true, false, false, true])]
set_option maxRecDepth 100000 in
set_option maxHeartbeats 4000000 in
theorem S_M_module {d : Nat} {a0 : Int32} {σ : fkS} {Q : Option Value → fkS → Prop} 
  (h : ((a0 < 0 →
    Q (some (.int (0 : Int32))) σ) ∧
   (¬ a0 < 0 →
    ((a0 ≤ (σ.1 103 1) →
      Wq 239 (d + 1) 26 [some (.ref 103), some (.int a0), some (.int (0 : Int32)), none] [] (sI σ 103 38 ((1 : Int32) - (σ.1 103 37))) Q) ∧
     (¬ a0 ≤ (σ.1 103 1) →
      Q (some (.int (0 : Int32))) σ))))) :
  Cl (d + 1) 239 [.ref 103, .int a0] σ Q := by
  exact Cl.run B_M_module C_M_module 19 fk_q239 ok_M_module rfl h
set_option maxRecDepth 100000 in
set_option maxHeartbeats 4000000 in
theorem S_M_module_26 {d : Nat} {v1 : Int32} {v2 : Int32} {σ : fkS} {Q : Option Value → fkS → Prop} 
  (h : ((v1 ≤ v2 →
    (Cv d 240 [.ref 103, .int v1] (sI (sI (sI σ 103 1 (0 : Int32)) 103 2 (-1 : Int32)) 103 58 v1) (fun σ1 =>
    (((σ1.1 103 42) = 0 →
      (Ci d 265 [.ref 103] σ1 (fun x3 σ2 =>
      ((x3 = 0 →
        Wq 239 (d + 1) 111 [some (.ref 103), none, none, some (.int (0 : Int32))] [] σ2 Q) ∧
       (¬ x3 = 0 →
        Q (some (.int x3)) σ2))))) ∧
     (¬ (σ1.1 103 42) = 0 →
      Q (some (.int (σ1.1 103 42))) (sI σ1 103 2 (σ1.1 103 43))))))) ∧
   (¬ v1 ≤ v2 →
    (vp_in v2 4000 ∧
    (vp_in (((4000 : Int32) * (σ.1 103 38)) + v2) 8000 ∧
    Wq 239 (d + 1) 26 [some (.ref 103), some (.int v1), some (.int (v2 + (1 : Int32))), none] [] (sI σ 105 ((((4000 : Int32) * (σ.1 103 38)) + v2).toNatClampNeg) (σ.1 104 v2.toNatClampNeg)) Q))))) :
  Wq 239 (d + 1) 26 [some (.ref 103), some (.int v1), some (.int v2), none] [] σ Q := by
  exact fk_run_sound (B := B_M_module) (C := C_M_module) (n := 19) ok_M_module h
set_option maxRecDepth 100000 in
set_option maxHeartbeats 4000000 in
theorem S_M_module_111 {d : Nat} {v3 : Int32} {σ : fkS} {Q : Option Value → fkS → Prop} 
  (h : (vp_in (σ.1 103 38) 2 ∧
  (((σ.1 115 ((σ.1 103 38).toNatClampNeg)) ≤ v3 →
    (Cv d 289 [.ref 103] σ (fun σ1 =>
    Q (some (.int (1 : Int32))) σ1))) ∧
   (¬ (σ.1 115 ((σ.1 103 38).toNatClampNeg)) ≤ v3 →
    (vp_in (((60 : Int32) * (σ.1 103 38)) + v3) 120 ∧
    (vp_in (((60 : Int32) * (σ.1 103 38)) + v3) 120 ∧
    (vp_in (σ.1 103 38) 2 ∧
    (((lg_cmp ((σ.2.1 124 ((((60 : Int32) * (σ.1 103 38)) + v3).toNatClampNeg)) + ((σ.1 133 ((((60 : Int32) * (σ.1 103 38)) + v3).toNatClampNeg)).toInt64)) (σ.2.1 118 ((σ.1 103 38).toNatClampNeg))) ≤ 0 →
      Wq 239 (d + 1) 111 [some (.ref 103), none, none, some (.int (v3 + (1 : Int32)))] [] σ Q) ∧
     (¬ (lg_cmp ((σ.2.1 124 ((((60 : Int32) * (σ.1 103 38)) + v3).toNatClampNeg)) + ((σ.1 133 ((((60 : Int32) * (σ.1 103 38)) + v3).toNatClampNeg)).toInt64)) (σ.2.1 118 ((σ.1 103 38).toNatClampNeg))) ≤ 0 →
      Q (some (.int (-4 : Int32))) σ))))))))) :
  Wq 239 (d + 1) 111 [some (.ref 103), none, none, some (.int v3)] [] σ Q := by
  exact fk_run_sound (B := B_M_module) (C := C_M_module) (n := 19) ok_M_module h
def B_M_makes : fkB := [(0, [(.aload_n 0, 1, []), (.aload_n 0, 1, []), (.getfield 293, 3, [12, 38, 1915, 0]), (.putfield 493, 3, [12, 37, 1914, 0]), (.aload_n 0, 1, []), (.iconst 1, 1, []), (.putfield 505, 3, [12, 39, 1916, 0]), (.iconst 0, 1, []), (.istore_n 1, 1, [])]),
  (15, [(.iload_n 1, 1, []), (.aload_n 0, 1, []), (.getfield 41, 3, [12, 11, 1888, 0]), (.aload_n 0, 1, []), (.getfield 293, 3, [12, 38, 1915, 0]), (.iaload, 1, []), (.if_icmp .ge 29, 3, [54])]),
  (28, [(.aload_n 0, 1, []), (.getfield 142, 3, [12, 59, 1936, 0]), (.iload_n 1, 1, []), (.aload_n 0, 1, []), (.getfield 69, 3, [12, 20, 1897, 0]), (.bipush 60, 2, []), (.aload_n 0, 1, []), (.getfield 293, 3, [12, 38, 1915, 0]), (.imul, 1, []), (.iload_n 1, 1, []), (.iadd, 1, []), (.laload, 1, []), (.lastore, 1, []), (.iinc 1 1, 3, []), (.goto (-36), 3, [15])]),
  (54, [(.aload_n 0, 1, []), (.aload_n 0, 1, []), (.getfield 38, 3, [12, 10, 1887, 0]), (.aload_n 0, 1, []), (.getfield 293, 3, [12, 38, 1915, 0]), (.iaload, 1, []), (.iconst 1, 1, []), (.if_icmp .ne 16, 3, [81])]),
  (68, [(.aload_n 0, 1, []), (.getfield 63, 3, [12, 18, 1895, 0]), (.aload_n 0, 1, []), (.getfield 293, 3, [12, 38, 1915, 0]), (.laload, 1, []), (.l2i, 1, []), (.goto 4, 3, [82])]),
  (81, [(.iconst 0, 1, [])]),
  (82, [(.putfield 508, 3, [12, 62, 1939, 0]), (.iconst 0, 1, []), (.istore_n 1, 1, [])]),
  (87, [(.iload_n 1, 1, []), (.ldc 148, 2, [131072, 1874]), (.if_icmp .ge 16, 3, [106])]),
  (93, [(.aload_n 0, 1, []), (.getfield 149, 3, [12, 61, 1938, 0]), (.iload_n 1, 1, []), (.iconst 0, 1, []), (.iastore, 1, []), (.iinc 1 1, 3, []), (.goto (-16), 3, [87])]),
  (106, [(.iconst 0, 1, []), (.istore_n 1, 1, [])]),
  (108, [(.iload_n 1, 1, []), (.bipush 100, 2, []), (.if_icmp .ge 16, 3, [127])]),
  (114, [(.aload_n 0, 1, []), (.getfield 145, 3, [12, 60, 1937, 0]), (.iload_n 1, 1, []), (.iconst (-1), 1, []), (.iastore, 1, []), (.iinc 1 1, 3, []), (.goto (-16), 3, [108])]),
  (127, [(.iconst 0, 1, []), (.istore_n 1, 1, [])]),
  (129, [(.iload_n 1, 1, []), (.aload_n 0, 1, []), (.getfield 47, 3, [12, 13, 1890, 0]), (.aload_n 0, 1, []), (.getfield 293, 3, [12, 38, 1915, 0]), (.iaload, 1, []), (.if_icmp .ge 63, 3, [202])]),
  (142, [(.bipush 60, 2, []), (.aload_n 0, 1, []), (.getfield 293, 3, [12, 38, 1915, 0]), (.imul, 1, []), (.iload_n 1, 1, []), (.iadd, 1, []), (.istore_n 2, 1, []), (.iconst 0, 1, []), (.istore_n 3, 1, [])]),
  (154, [(.iload_n 3, 1, []), (.aload_n 0, 1, []), (.getfield 102, 3, [12, 31, 1908, 0]), (.iload_n 2, 1, []), (.iaload, 1, []), (.if_icmp .ge 35, 3, [196])]),
  (164, [(.aload_n 0, 1, []), (.getfield 145, 3, [12, 60, 1937, 0]), (.aload_n 0, 1, []), (.getfield 75, 3, [12, 22, 1899, 0]), (.iload_n 2, 1, []), (.laload, 1, []), (.l2i, 1, []), (.iload_n 3, 1, []), (.iadd, 1, []), (.aload_n 0, 1, []), (.getfield 78, 3, [12, 23, 1900, 0]), (.bipush 60, 2, []), (.iload_n 2, 1, []), (.imul, 1, []), (.iload_n 3, 1, []), (.iadd, 1, []), (.laload, 1, []), (.l2i, 1, []), (.iastore, 1, []), (.iinc 3 1, 3, []), (.goto (-39), 3, [154])]),
  (196, [(.iinc 1 1, 3, []), (.goto (-70), 3, [129])]),
  (202, [(.return_, 1, [])])]
set_option maxRecDepth 100000 in
theorem ok_M_makes : fk_okM 289 B_M_makes = true := by decide +kernel
abbrev C_M_makes : fkC := [(15, [true, true, false, false]), (87, [true, true, false, false]), (108, [true, true, false, false]), (129, [true, true, false, false]), (154, [true, true, true, true])]
set_option maxRecDepth 100000 in
set_option maxHeartbeats 4000000 in
theorem S_M_makes {d : Nat}  {σ : fkS} {Q : Option Value → fkS → Prop} 
  (h : Wq 289 d 15 [some (.ref 103), some (.int (0 : Int32)), none, none] [] (sI (sI σ 103 37 (σ.1 103 38)) 103 39 (1 : Int32)) Q) :
  Cl d 289 [.ref 103] σ Q := by
  exact Cl.run B_M_makes C_M_makes 22 fk_q289 ok_M_makes rfl h
set_option maxRecDepth 100000 in
set_option maxHeartbeats 4000000 in
theorem S_M_makes_15 {d : Nat} {v1 : Int32} {σ : fkS} {Q : Option Value → fkS → Prop} 
  (h : (vp_in (σ.1 103 38) 2 ∧
  (((σ.1 113 ((σ.1 103 38).toNatClampNeg)) ≤ v1 →
    (vp_in (σ.1 103 38) 2 ∧
    ((¬ (σ.1 112 ((σ.1 103 38).toNatClampNeg)) = (1 : Int32) →
      Wq 289 d 87 [some (.ref 103), some (.int (0 : Int32)), none, none] [] (sI σ 103 62 (0 : Int32)) Q) ∧
     ((σ.1 112 ((σ.1 103 38).toNatClampNeg)) = (1 : Int32) →
      (vp_in (σ.1 103 38) 2 ∧
      Wq 289 d 87 [some (.ref 103), some (.int (0 : Int32)), none, none] [] (sI σ 103 62 ((σ.2.1 120 ((σ.1 103 38).toNatClampNeg)).toInt32)) Q))))) ∧
   (¬ (σ.1 113 ((σ.1 103 38).toNatClampNeg)) ≤ v1 →
    (vp_in (((60 : Int32) * (σ.1 103 38)) + v1) 120 ∧
    (vp_in v1 60 ∧
    Wq 289 d 15 [some (.ref 103), some (.int (v1 + (1 : Int32))), none, none] [] (sL σ 146 v1.toNatClampNeg (σ.2.1 122 ((((60 : Int32) * (σ.1 103 38)) + v1).toNatClampNeg))) Q)))))) :
  Wq 289 d 15 [some (.ref 103), some (.int v1), none, none] [] σ Q := by
  exact fk_run_sound (B := B_M_makes) (C := C_M_makes) (n := 22) ok_M_makes h
set_option maxRecDepth 100000 in
set_option maxHeartbeats 4000000 in
theorem S_M_makes_87 {d : Nat} {v1 : Int32} {σ : fkS} {Q : Option Value → fkS → Prop} 
  (h : (((131072 : Int32) ≤ v1 →
    Wq 289 d 108 [some (.ref 103), some (.int (0 : Int32)), none, none] [] σ Q) ∧
   (¬ (131072 : Int32) ≤ v1 →
    (vp_in v1 131072 ∧
    Wq 289 d 87 [some (.ref 103), some (.int (v1 + (1 : Int32))), none, none] [] (sI σ 148 v1.toNatClampNeg (0 : Int32)) Q)))) :
  Wq 289 d 87 [some (.ref 103), some (.int v1), none, none] [] σ Q := by
  exact fk_run_sound (B := B_M_makes) (C := C_M_makes) (n := 22) ok_M_makes h
set_option maxRecDepth 100000 in
set_option maxHeartbeats 4000000 in
theorem S_M_makes_108 {d : Nat} {v1 : Int32} {σ : fkS} {Q : Option Value → fkS → Prop} 
  (h : (((100 : Int32) ≤ v1 →
    Wq 289 d 129 [some (.ref 103), some (.int (0 : Int32)), none, none] [] σ Q) ∧
   (¬ (100 : Int32) ≤ v1 →
    (vp_in v1 100 ∧
    Wq 289 d 108 [some (.ref 103), some (.int (v1 + (1 : Int32))), none, none] [] (sI σ 147 v1.toNatClampNeg (-1 : Int32)) Q)))) :
  Wq 289 d 108 [some (.ref 103), some (.int v1), none, none] [] σ Q := by
  exact fk_run_sound (B := B_M_makes) (C := C_M_makes) (n := 22) ok_M_makes h
set_option maxRecDepth 100000 in
set_option maxHeartbeats 4000000 in
theorem S_M_makes_129 {d : Nat} {v1 : Int32} {σ : fkS} {Q : Option Value → fkS → Prop} 
  (h : (vp_in (σ.1 103 38) 2 ∧
  (((σ.1 115 ((σ.1 103 38).toNatClampNeg)) ≤ v1 →
    Q none σ) ∧
   (¬ (σ.1 115 ((σ.1 103 38).toNatClampNeg)) ≤ v1 →
    Wq 289 d 154 [some (.ref 103), some (.int v1), some (.int (((60 : Int32) * (σ.1 103 38)) + v1)), some (.int (0 : Int32))] [] σ Q)))) :
  Wq 289 d 129 [some (.ref 103), some (.int v1), none, none] [] σ Q := by
  exact fk_run_sound (B := B_M_makes) (C := C_M_makes) (n := 22) ok_M_makes h
set_option maxRecDepth 100000 in
set_option maxHeartbeats 4000000 in
theorem S_M_makes_154 {d : Nat} {v1 : Int32} {v2 : Int32} {v3 : Int32} {σ : fkS} {Q : Option Value → fkS → Prop} 
  (h : (vp_in v2 120 ∧
  (((σ.1 133 v2.toNatClampNeg) ≤ v3 →
    Wq 289 d 129 [some (.ref 103), some (.int (v1 + (1 : Int32))), none, none] [] σ Q) ∧
   (¬ (σ.1 133 v2.toNatClampNeg) ≤ v3 →
    (vp_in v2 120 ∧
    (vp_in (((60 : Int32) * v2) + v3) 7200 ∧
    (vp_in (((σ.2.1 124 v2.toNatClampNeg).toInt32) + v3) 100 ∧
    Wq 289 d 154 [some (.ref 103), some (.int v1), some (.int v2), some (.int (v3 + (1 : Int32)))] [] (sI σ 147 ((((σ.2.1 124 v2.toNatClampNeg).toInt32) + v3).toNatClampNeg) ((σ.2.1 125 ((((60 : Int32) * v2) + v3).toNatClampNeg)).toInt32)) Q))))))) :
  Wq 289 d 154 [some (.ref 103), some (.int v1), some (.int v2), some (.int v3)] [] σ Q := by
  exact fk_run_sound (B := B_M_makes) (C := C_M_makes) (n := 22) ok_M_makes h
def B_M_place : fkB := [(0, [(.aload_n 0, 1, []), (.getfield 13, 3, [12, 2, 1879, 0]), (.ireturn, 1, [])])]
set_option maxRecDepth 100000 in
theorem ok_M_place : fk_okM 290 B_M_place = true := by decide +kernel
abbrev C_M_place : fkC := []
set_option maxRecDepth 100000 in
set_option maxHeartbeats 4000000 in
theorem S_M_place {d : Nat}  {σ : fkS} {Q : Option Value → fkS → Prop} 
  (h : Q (some (.int (σ.1 103 2))) σ) :
  Cl d 290 [.ref 103] σ Q := by
  exact Cl.run B_M_place C_M_place 4 fk_q290 ok_M_place rfl h
def B_M_count : fkB := [(0, [(.aload_n 0, 1, []), (.getfield 505, 3, [12, 39, 1916, 0]), (.ifCond .ne 5, 3, [9])]),
  (7, [(.iconst (-1), 1, []), (.ireturn, 1, [])]),
  (9, [(.iload_n 1, 1, []), (.tableswitch 126 0 5 #[38, 48, 58, 85, 106, 116], 38, [136, 48, 58, 68, 95, 116, 126])]),
  (48, [(.aload_n 0, 1, []), (.getfield 20, 3, [12, 4, 1881, 0]), (.aload_n 0, 1, []), (.getfield 493, 3, [12, 37, 1914, 0]), (.iaload, 1, []), (.ireturn, 1, [])]),
  (58, [(.aload_n 0, 1, []), (.getfield 32, 3, [12, 8, 1885, 0]), (.aload_n 0, 1, []), (.getfield 493, 3, [12, 37, 1914, 0]), (.iaload, 1, []), (.ireturn, 1, [])]),
  (68, [(.aload_n 0, 1, []), (.getfield 35, 3, [12, 9, 1886, 0]), (.aload_n 0, 1, []), (.getfield 493, 3, [12, 37, 1914, 0]), (.iaload, 1, []), (.ifCond .ne 7, 3, [84])]),
  (80, [(.iconst (-1), 1, []), (.goto 13, 3, [94])]),
  (84, [(.aload_n 0, 1, []), (.getfield 57, 3, [12, 16, 1893, 0]), (.aload_n 0, 1, []), (.getfield 493, 3, [12, 37, 1914, 0]), (.laload, 1, []), (.l2i, 1, [])]),
  (94, [(.ireturn, 1, [])]),
  (95, [(.aload_n 0, 1, []), (.getfield 38, 3, [12, 10, 1887, 0]), (.aload_n 0, 1, []), (.getfield 493, 3, [12, 37, 1914, 0]), (.iaload, 1, []), (.ifCond .ne 7, 3, [111])]),
  (107, [(.iconst (-1), 1, []), (.goto 7, 3, [115])]),
  (111, [(.aload_n 0, 1, []), (.getfield 508, 3, [12, 62, 1939, 0])]),
  (115, [(.ireturn, 1, [])]),
  (116, [(.aload_n 0, 1, []), (.getfield 41, 3, [12, 11, 1888, 0]), (.aload_n 0, 1, []), (.getfield 493, 3, [12, 37, 1914, 0]), (.iaload, 1, []), (.ireturn, 1, [])]),
  (126, [(.aload_n 0, 1, []), (.getfield 44, 3, [12, 12, 1889, 0]), (.aload_n 0, 1, []), (.getfield 493, 3, [12, 37, 1914, 0]), (.iaload, 1, []), (.ireturn, 1, [])]),
  (136, [(.iconst (-1), 1, []), (.ireturn, 1, [])])]
set_option maxRecDepth 100000 in
theorem ok_M_count : fk_okM 291 B_M_count = true := by decide +kernel
abbrev C_M_count : fkC := []
set_option maxRecDepth 100000 in
set_option maxHeartbeats 4000000 in
theorem S_M_count {d : Nat} {a0 : Int32} {σ : fkS} {Q : Option Value → fkS → Prop} 
  (h : ((¬ (σ.1 103 39) = 0 →
    (((a0.toInt < 0 ∨ 5 < a0.toInt) →
      Q (some (.int (-1 : Int32))) σ) ∧
     (a0.toInt = 0 →
      (vp_in (σ.1 103 37) 2 ∧
      Q (some (.int (σ.1 106 ((σ.1 103 37).toNatClampNeg)))) σ)) ∧
     (a0.toInt = 1 →
      (vp_in (σ.1 103 37) 2 ∧
      Q (some (.int (σ.1 110 ((σ.1 103 37).toNatClampNeg)))) σ)) ∧
     (a0.toInt = 2 →
      (vp_in (σ.1 103 37) 2 ∧
      ((¬ (σ.1 111 ((σ.1 103 37).toNatClampNeg)) = 0 →
        (vp_in (σ.1 103 37) 2 ∧
        Q (some (.int ((σ.2.1 118 ((σ.1 103 37).toNatClampNeg)).toInt32))) σ)) ∧
       ((σ.1 111 ((σ.1 103 37).toNatClampNeg)) = 0 →
        Q (some (.int (-1 : Int32))) σ)))) ∧
     (a0.toInt = 3 →
      (vp_in (σ.1 103 37) 2 ∧
      ((¬ (σ.1 112 ((σ.1 103 37).toNatClampNeg)) = 0 →
        Q (some (.int (σ.1 103 62))) σ) ∧
       ((σ.1 112 ((σ.1 103 37).toNatClampNeg)) = 0 →
        Q (some (.int (-1 : Int32))) σ)))) ∧
     (a0.toInt = 4 →
      (vp_in (σ.1 103 37) 2 ∧
      Q (some (.int (σ.1 113 ((σ.1 103 37).toNatClampNeg)))) σ)) ∧
     (a0.toInt = 5 →
      (vp_in (σ.1 103 37) 2 ∧
      Q (some (.int (σ.1 114 ((σ.1 103 37).toNatClampNeg)))) σ)) ∧ True)) ∧
   ((σ.1 103 39) = 0 →
    Q (some (.int (-1 : Int32))) σ))) :
  Cl d 291 [.ref 103, .int a0] σ Q := by
  exact Cl.run B_M_count C_M_count 19 fk_q291 ok_M_count rfl h
def B_M_export : fkB := [(0, [(.aload_n 0, 1, []), (.getfield 505, 3, [12, 39, 1916, 0]), (.ifCond .eq 19, 3, [23])]),
  (7, [(.iload_n 1, 1, []), (.aload_n 0, 1, []), (.getfield 44, 3, [12, 12, 1889, 0]), (.aload_n 0, 1, []), (.getfield 493, 3, [12, 37, 1914, 0]), (.iaload, 1, []), (.invokestatic 511, 3, [293, 2, 2532, 0, 1]), (.ifCond .ne 6, 3, [26])]),
  (23, [(.bipush (-9), 2, []), (.ireturn, 1, [])]),
  (26, [(.bipush 60, 2, []), (.aload_n 0, 1, []), (.getfield 493, 3, [12, 37, 1914, 0]), (.imul, 1, []), (.iload_n 1, 1, []), (.iadd, 1, []), (.istore_n 3, 1, []), (.iload_n 2, 1, []), (.ifCond .ge 57, 3, [94])]),
  (40, [(.aload_n 0, 1, []), (.getfield 96, 3, [12, 29, 1906, 0]), (.iload_n 3, 1, []), (.iaload, 1, []), (.ifCond .ne 9, 3, [55])]),
  (49, [(.iload_n 2, 1, []), (.bipush (-2), 2, []), (.if_icmp .ge 6, 3, [58])]),
  (55, [(.bipush (-9), 2, []), (.ireturn, 1, [])]),
  (58, [(.aload_n 0, 1, []), (.aload_n 0, 1, []), (.getfield 72, 3, [12, 21, 1898, 0]), (.iload_n 3, 1, []), (.laload, 1, []), (.l2i, 1, []), (.invokevirtual 514, 3, [294, 1, 2535, 0, 1, 12]), (.istore 4, 2, []), (.iload_n 2, 1, []), (.iconst (-1), 1, []), (.if_icmp .ne 13, 3, [86])]),
  (76, [(.aload_n 0, 1, []), (.getfield 23, 3, [12, 5, 1882, 0]), (.iload 4, 2, []), (.iaload, 1, []), (.goto 10, 3, [93])]),
  (86, [(.aload_n 0, 1, []), (.getfield 29, 3, [12, 7, 1884, 0]), (.iload 4, 2, []), (.iaload, 1, [])]),
  (93, [(.ireturn, 1, [])]),
  (94, [(.iload_n 2, 1, []), (.tableswitch 47 0 2 #[25, 32, 40], 25, [142, 120, 127, 135])]),
  (120, [(.aload_n 0, 1, []), (.getfield 96, 3, [12, 29, 1906, 0]), (.iload_n 3, 1, []), (.iaload, 1, []), (.ireturn, 1, [])]),
  (127, [(.aload_n 0, 1, []), (.getfield 72, 3, [12, 21, 1898, 0]), (.iload_n 3, 1, []), (.laload, 1, []), (.l2i, 1, []), (.ireturn, 1, [])]),
  (135, [(.aload_n 0, 1, []), (.getfield 93, 3, [12, 28, 1905, 0]), (.iload_n 3, 1, []), (.iaload, 1, []), (.ireturn, 1, [])]),
  (142, [(.iload_n 2, 1, []), (.iconst 3, 1, []), (.isub, 1, []), (.aload_n 0, 1, []), (.getfield 93, 3, [12, 28, 1905, 0]), (.iload_n 3, 1, []), (.iaload, 1, []), (.if_icmp .ge 30, 3, [181])]),
  (154, [(.aload_n 0, 1, []), (.getfield 17, 3, [12, 3, 1880, 0]), (.sipush 4000, 3, []), (.aload_n 0, 1, []), (.getfield 493, 3, [12, 37, 1914, 0]), (.imul, 1, []), (.aload_n 0, 1, []), (.getfield 90, 3, [12, 27, 1904, 0]), (.iload_n 3, 1, []), (.iaload, 1, []), (.iadd, 1, []), (.iload_n 2, 1, []), (.iadd, 1, []), (.iconst 3, 1, []), (.isub, 1, []), (.iaload, 1, []), (.goto 5, 3, [183])]),
  (181, [(.bipush (-9), 2, [])]),
  (183, [(.ireturn, 1, [])])]
set_option maxRecDepth 100000 in
theorem ok_M_export : fk_okM 292 B_M_export = true := by decide +kernel
abbrev C_M_export : fkC := []
set_option maxRecDepth 100000 in
set_option maxHeartbeats 4000000 in
theorem S_M_export {d : Nat} {a0 : Int32} {a1 : Int32} {σ : fkS} {Q : Option Value → fkS → Prop} 
  (h : (((σ.1 103 39) = 0 →
    Q (some (.int (-9 : Int32))) σ) ∧
   (¬ (σ.1 103 39) = 0 →
    (vp_in (σ.1 103 37) 2 ∧
    (Ci d 293 [.int a0, .int (σ.1 114 ((σ.1 103 37).toNatClampNeg))] σ (fun x2 σ1 =>
    ((¬ x2 = 0 →
      ((0 ≤ a1 →
        (((a1.toInt < 0 ∨ 2 < a1.toInt) →
          (vp_in (((60 : Int32) * (σ1.1 103 37)) + a0) 120 ∧
          (((σ1.1 130 ((((60 : Int32) * (σ1.1 103 37)) + a0).toNatClampNeg)) ≤ (a1 - (3 : Int32)) →
            Q (some (.int (-9 : Int32))) σ1) ∧
           (¬ (σ1.1 130 ((((60 : Int32) * (σ1.1 103 37)) + a0).toNatClampNeg)) ≤ (a1 - (3 : Int32)) →
            (vp_in (((60 : Int32) * (σ1.1 103 37)) + a0) 120 ∧
            (vp_in (((((4000 : Int32) * (σ1.1 103 37)) + (σ1.1 129 ((((60 : Int32) * (σ1.1 103 37)) + a0).toNatClampNeg))) + a1) - (3 : Int32)) 8000 ∧
            Q (some (.int (σ1.1 105 ((((((4000 : Int32) * (σ1.1 103 37)) + (σ1.1 129 ((((60 : Int32) * (σ1.1 103 37)) + a0).toNatClampNeg))) + a1) - (3 : Int32)).toNatClampNeg)))) σ1)))))) ∧
         (a1.toInt = 0 →
          (vp_in (((60 : Int32) * (σ1.1 103 37)) + a0) 120 ∧
          Q (some (.int (σ1.1 131 ((((60 : Int32) * (σ1.1 103 37)) + a0).toNatClampNeg)))) σ1)) ∧
         (a1.toInt = 1 →
          (vp_in (((60 : Int32) * (σ1.1 103 37)) + a0) 120 ∧
          Q (some (.int ((σ1.2.1 123 ((((60 : Int32) * (σ1.1 103 37)) + a0).toNatClampNeg)).toInt32))) σ1)) ∧
         (a1.toInt = 2 →
          (vp_in (((60 : Int32) * (σ1.1 103 37)) + a0) 120 ∧
          Q (some (.int (σ1.1 130 ((((60 : Int32) * (σ1.1 103 37)) + a0).toNatClampNeg)))) σ1)) ∧ True)) ∧
       (¬ 0 ≤ a1 →
        (vp_in (((60 : Int32) * (σ1.1 103 37)) + a0) 120 ∧
        ((¬ (σ1.1 131 ((((60 : Int32) * (σ1.1 103 37)) + a0).toNatClampNeg)) = 0 →
          Q (some (.int (-9 : Int32))) σ1) ∧
         ((σ1.1 131 ((((60 : Int32) * (σ1.1 103 37)) + a0).toNatClampNeg)) = 0 →
          (((-2 : Int32) ≤ a1 →
            (vp_in (((60 : Int32) * (σ1.1 103 37)) + a0) 120 ∧
            (Ci d 294 [.ref 103, .int ((σ1.2.1 123 ((((60 : Int32) * (σ1.1 103 37)) + a0).toNatClampNeg)).toInt32)] σ1 (fun x4 σ3 =>
            ((¬ a1 = (-1 : Int32) →
              (vp_in x4 120 ∧
              Q (some (.int (σ3.1 109 x4.toNatClampNeg))) σ3)) ∧
             (a1 = (-1 : Int32) →
              (vp_in x4 120 ∧
              Q (some (.int (σ3.1 107 x4.toNatClampNeg))) σ3))))))) ∧
           (¬ (-2 : Int32) ≤ a1 →
            Q (some (.int (-9 : Int32))) σ1)))))))) ∧
     (x2 = 0 →
      Q (some (.int (-9 : Int32))) σ1)))))))) :
  Cl (d + 1) 292 [.ref 103, .int a0, .int a1] σ Q := by
  exact Cl.run B_M_export C_M_export 22 fk_q292 ok_M_export rfl h
def B_M_typeOf : fkB := [(0, [(.bipush 60, 2, []), (.aload_n 0, 1, []), (.getfield 493, 3, [12, 37, 1914, 0]), (.imul, 1, []), (.aload_n 0, 1, []), (.getfield 53, 3, [12, 15, 1892, 0]), (.bipush 60, 2, []), (.aload_n 0, 1, []), (.getfield 493, 3, [12, 37, 1914, 0]), (.imul, 1, []), (.iload_n 1, 1, []), (.iadd, 1, []), (.laload, 1, []), (.l2i, 1, []), (.iadd, 1, []), (.ireturn, 1, [])])]
set_option maxRecDepth 100000 in
theorem ok_M_typeOf : fk_okM 294 B_M_typeOf = true := by decide +kernel
abbrev C_M_typeOf : fkC := []
set_option maxRecDepth 100000 in
set_option maxHeartbeats 4000000 in
theorem S_M_typeOf {d : Nat} {a0 : Int32} {σ : fkS} {Q : Option Value → fkS → Prop} 
  (h : (vp_in (((60 : Int32) * (σ.1 103 37)) + a0) 120 ∧
  Q (some (.int (((60 : Int32) * (σ.1 103 37)) + ((σ.2.1 117 ((((60 : Int32) * (σ.1 103 37)) + a0).toNatClampNeg)).toInt32)))) σ)) :
  Cl d 294 [.ref 103, .int a0] σ Q := by
  exact Cl.run B_M_typeOf C_M_typeOf 4 fk_q294 ok_M_typeOf rfl h
def B_M_argument : fkB := [(0, [(.iload_n 1, 1, []), (.bipush 8, 2, []), (.invokestatic 511, 3, [293, 2, 2532, 0, 1]), (.ifCond .ne 5, 3, [11])]),
  (9, [(.iconst 0, 1, []), (.ireturn, 1, [])]),
  (11, [(.aload_n 0, 1, []), (.getfield 152, 3, [12, 63, 1940, 0]), (.iload_n 1, 1, []), (.lload_n 2, 1, []), (.lastore, 1, []), (.iconst 1, 1, []), (.ireturn, 1, [])])]
set_option maxRecDepth 100000 in
theorem ok_M_argument : fk_okM 295 B_M_argument = true := by decide +kernel
abbrev C_M_argument : fkC := []
set_option maxRecDepth 100000 in
set_option maxHeartbeats 4000000 in
theorem S_M_argument {d : Nat} {a0 : Int32} {a1 : Int64} {σ : fkS} {Q : Option Value → fkS → Prop} 
  (h : (Ci d 293 [.int a0, .int (8 : Int32)] σ (fun x2 σ1 =>
  ((¬ x2 = 0 →
    (vp_in a0 8 ∧
    Q (some (.int (1 : Int32))) (sL σ1 149 a0.toNatClampNeg a1))) ∧
   (x2 = 0 →
    Q (some (.int (0 : Int32))) σ1))))) :
  Cl (d + 1) 295 [.ref 103, .int a0, .long a1] σ Q := by
  exact Cl.run B_M_argument C_M_argument 6 fk_q295 ok_M_argument rfl h
def B_M_run : fkB := [(0, [(.aload_n 0, 1, []), (.getfield 505, 3, [12, 39, 1916, 0]), (.ifCond .eq 36, 3, [40])]),
  (7, [(.iload_n 1, 1, []), (.aload_n 0, 1, []), (.getfield 44, 3, [12, 12, 1889, 0]), (.aload_n 0, 1, []), (.getfield 493, 3, [12, 37, 1914, 0]), (.iaload, 1, []), (.invokestatic 511, 3, [293, 2, 2532, 0, 1]), (.ifCond .eq 20, 3, [40])]),
  (23, [(.aload_n 0, 1, []), (.getfield 96, 3, [12, 29, 1906, 0]), (.bipush 60, 2, []), (.aload_n 0, 1, []), (.getfield 493, 3, [12, 37, 1914, 0]), (.imul, 1, []), (.iload_n 1, 1, []), (.iadd, 1, []), (.iaload, 1, []), (.ifCond .eq 5, 3, [42])]),
  (40, [(.iconst (-1), 1, []), (.ireturn, 1, [])]),
  (42, [(.aload_n 0, 1, []), (.getfield 72, 3, [12, 21, 1898, 0]), (.bipush 60, 2, []), (.aload_n 0, 1, []), (.getfield 493, 3, [12, 37, 1914, 0]), (.imul, 1, []), (.iload_n 1, 1, []), (.iadd, 1, []), (.laload, 1, []), (.l2i, 1, []), (.istore_n 3, 1, []), (.aload_n 0, 1, []), (.iload_n 3, 1, []), (.invokevirtual 514, 3, [294, 1, 2535, 0, 1, 12]), (.istore 4, 2, []), (.aload_n 0, 1, []), (.getfield 23, 3, [12, 5, 1882, 0]), (.iload 4, 2, []), (.iaload, 1, []), (.bipush 8, 2, []), (.if_icmp .le 5, 3, [79])]),
  (77, [(.iconst (-1), 1, []), (.ireturn, 1, [])]),
  (79, [(.iload_n 2, 1, []), (.ifCond .lt 10, 3, [90])]),
  (83, [(.iload_n 2, 1, []), (.sipush 20000, 3, []), (.if_icmp .le 6, 3, [93])]),
  (90, [(.bipush (-2), 2, []), (.ireturn, 1, [])]),
  (93, [(.aload_n 0, 1, []), (.aload_n 0, 1, []), (.getfield 493, 3, [12, 37, 1914, 0]), (.putfield 293, 3, [12, 38, 1915, 0]), (.aload_n 0, 1, []), (.iconst 0, 1, []), (.putfield 287, 3, [12, 42, 1919, 0]), (.aload_n 0, 1, []), (.sipush 4000, 3, []), (.putfield 299, 3, [12, 41, 1918, 0]), (.aload_n 0, 1, []), (.iconst 0, 1, []), (.putfield 517, 3, [12, 66, 1943, 0]), (.aload_n 0, 1, []), (.iload_n 2, 1, []), (.putfield 520, 3, [12, 67, 1944, 0]), (.aload_n 0, 1, []), (.iconst 0, 1, []), (.putfield 523, 3, [12, 68, 1945, 0]), (.aload_n 0, 1, []), (.iconst 0, 1, []), (.putfield 526, 3, [12, 69, 1946, 0]), (.aload_n 0, 1, []), (.iconst 0, 1, []), (.putfield 529, 3, [12, 70, 1947, 0]), (.aload_n 0, 1, []), (.iconst 0, 1, []), (.putfield 532, 3, [12, 74, 1951, 0]), (.aload_n 0, 1, []), (.iconst 0, 1, []), (.putfield 535, 3, [12, 71, 1948, 0]), (.iconst 0, 1, []), (.istore 5, 2, [])]),
  (151, [(.iload 5, 2, []), (.aload_n 0, 1, []), (.getfield 23, 3, [12, 5, 1882, 0]), (.iload 4, 2, []), (.iaload, 1, []), (.if_icmp .ge 50, 3, [210])]),
  (163, [(.aload_n 0, 1, []), (.aload_n 0, 1, []), (.getfield 26, 3, [12, 6, 1883, 0]), (.bipush 60, 2, []), (.iload 4, 2, []), (.imul, 1, []), (.iload 5, 2, []), (.iadd, 1, []), (.iaload, 1, []), (.bipush 127, 2, []), (.if_icmp .ne 15, 3, [194])]),
  (182, [(.aload_n 0, 1, []), (.getfield 152, 3, [12, 63, 1940, 0]), (.iload 5, 2, []), (.laload, 1, []), (.l2i, 1, []), (.i2l, 1, []), (.goto 10, 3, [201])]),
  (194, [(.aload_n 0, 1, []), (.getfield 152, 3, [12, 63, 1940, 0]), (.iload 5, 2, []), (.laload, 1, [])]),
  (201, [(.invokevirtual 538, 3, [297, 1, 2547, 0, 0, 12]), (.iinc 5 1, 3, []), (.goto (-56), 3, [151])]),
  (210, [(.aload_n 0, 1, []), (.iload_n 3, 1, []), (.invokevirtual 542, 3, [298, 1, 2551, 0, 0, 12]), (.aload_n 0, 1, []), (.getfield 526, 3, [12, 69, 1946, 0]), (.ifCond .ne 14, 3, [233])]),
  (222, [(.aload_n 0, 1, []), (.getfield 535, 3, [12, 71, 1948, 0]), (.ifCond .ne 7, 3, [233])]),
  (229, [(.iconst 1, 1, []), (.goto 4, 3, [234])]),
  (233, [(.iconst 0, 1, [])]),
  (234, [(.istore 5, 2, []), (.aload_n 0, 1, []), (.iload 5, 2, []), (.ifCond .eq 27, 3, [266])]),
  (242, [(.aload_n 0, 1, []), (.getfield 29, 3, [12, 7, 1884, 0]), (.iload 4, 2, []), (.iaload, 1, []), (.ifCond .eq 17, 3, [266])]),
  (252, [(.aload_n 0, 1, []), (.getfield 156, 3, [12, 64, 1941, 0]), (.aload_n 0, 1, []), (.getfield 517, 3, [12, 66, 1943, 0]), (.iconst 1, 1, []), (.isub, 1, []), (.laload, 1, []), (.goto 4, 3, [267])]),
  (266, [(.lconst 0, 1, [])]),
  (267, [(.putfield 545, 3, [12, 75, 1952, 0]), (.aload_n 0, 1, []), (.aload_n 0, 1, []), (.getfield 526, 3, [12, 69, 1946, 0]), (.putfield 548, 3, [12, 76, 1953, 0]), (.aload_n 0, 1, []), (.aload_n 0, 1, []), (.getfield 523, 3, [12, 68, 1945, 0]), (.putfield 551, 3, [12, 77, 1954, 0]), (.iload 5, 2, []), (.ifCond .eq 7, 3, [295])]),
  (291, [(.iconst 0, 1, []), (.goto 15, 3, [307])]),
  (295, [(.aload_n 0, 1, []), (.getfield 535, 3, [12, 71, 1948, 0]), (.ifCond .eq 7, 3, [306])]),
  (302, [(.iconst 1, 1, []), (.goto 4, 3, [307])]),
  (306, [(.iconst 2, 1, [])]),
  (307, [(.ireturn, 1, [])])]
set_option maxRecDepth 100000 in
theorem ok_M_run : fk_okM 296 B_M_run = true := by decide +kernel
abbrev C_M_run : fkC := [(151, [true, false, false, true, true, true]), (234, [true, false, false, false, true, false]), (267, [true, false, false, false, false, true])]
set_option maxRecDepth 100000 in
set_option maxHeartbeats 4000000 in
theorem S_M_run {d : Nat} {a0 : Int32} {a1 : Int32} {σ : fkS} {Q : Option Value → fkS → Prop} 
  (h : (((σ.1 103 39) = 0 →
    Q (some (.int (-1 : Int32))) σ) ∧
   (¬ (σ.1 103 39) = 0 →
    (vp_in (σ.1 103 37) 2 ∧
    (Ci d 293 [.int a0, .int (σ.1 114 ((σ.1 103 37).toNatClampNeg))] σ (fun x2 σ1 =>
    ((x2 = 0 →
      Q (some (.int (-1 : Int32))) σ1) ∧
     (¬ x2 = 0 →
      (vp_in (((60 : Int32) * (σ1.1 103 37)) + a0) 120 ∧
      (((σ1.1 131 ((((60 : Int32) * (σ1.1 103 37)) + a0).toNatClampNeg)) = 0 →
        (vp_in (((60 : Int32) * (σ1.1 103 37)) + a0) 120 ∧
        (Ci d 294 [.ref 103, .int ((σ1.2.1 123 ((((60 : Int32) * (σ1.1 103 37)) + a0).toNatClampNeg)).toInt32)] σ1 (fun x4 σ3 =>
        (vp_in x4 120 ∧
        (((σ3.1 107 x4.toNatClampNeg) ≤ (8 : Int32) →
          ((a1 < 0 →
            Q (some (.int (-2 : Int32))) σ3) ∧
           (¬ a1 < 0 →
            ((a1 ≤ (20000 : Int32) →
              Wq 296 (d + 1) 151 [some (.ref 103), none, none, some (.int ((σ1.2.1 123 ((((60 : Int32) * (σ1.1 103 37)) + a0).toNatClampNeg)).toInt32)), some (.int x4), some (.int (0 : Int32))] [] (sI (sI (sI (sI (sI (sI (sI (sI (sI (sI σ3 103 38 (σ3.1 103 37)) 103 42 (0 : Int32)) 103 41 (4000 : Int32)) 103 66 (0 : Int32)) 103 67 a1) 103 68 (0 : Int32)) 103 69 (0 : Int32)) 103 70 (0 : Int32)) 103 74 (0 : Int32)) 103 71 (0 : Int32)) Q) ∧
             (¬ a1 ≤ (20000 : Int32) →
              Q (some (.int (-2 : Int32))) σ3))))) ∧
         (¬ (σ3.1 107 x4.toNatClampNeg) ≤ (8 : Int32) →
          Q (some (.int (-1 : Int32))) σ3))))))) ∧
       (¬ (σ1.1 131 ((((60 : Int32) * (σ1.1 103 37)) + a0).toNatClampNeg)) = 0 →
        Q (some (.int (-1 : Int32))) σ1))))))))))) :
  Cl (d + 1) 296 [.ref 103, .int a0, .int a1] σ Q := by
  exact Cl.run B_M_run C_M_run 32 fk_q296 ok_M_run rfl h
set_option maxRecDepth 100000 in
set_option maxHeartbeats 4000000 in
theorem S_M_run_151 {d : Nat} {v3 : Int32} {v4 : Int32} {v5 : Int32} {σ : fkS} {Q : Option Value → fkS → Prop} 
  (h : (vp_in v4 120 ∧
  (((σ.1 107 v4.toNatClampNeg) ≤ v5 →
    (Cv d 298 [.ref 103, .int v3] σ (fun σ1 =>
    ((¬ (σ1.1 103 69) = 0 →
      Wq 296 (d + 1) 234 [some (.ref 103), none, none, none, some (.int v4), none] [.int (0 : Int32)] σ1 Q) ∧
     ((σ1.1 103 69) = 0 →
      ((¬ (σ1.1 103 71) = 0 →
        Wq 296 (d + 1) 234 [some (.ref 103), none, none, none, some (.int v4), none] [.int (0 : Int32)] σ1 Q) ∧
       ((σ1.1 103 71) = 0 →
        Wq 296 (d + 1) 234 [some (.ref 103), none, none, none, some (.int v4), none] [.int (1 : Int32)] σ1 Q))))))) ∧
   (¬ (σ.1 107 v4.toNatClampNeg) ≤ v5 →
    (vp_in (((60 : Int32) * v4) + v5) 7200 ∧
    ((¬ (σ.1 108 ((((60 : Int32) * v4) + v5).toNatClampNeg)) = (127 : Int32) →
      (vp_in v5 8 ∧
      (Cv d 297 [.ref 103, .long (σ.2.1 149 v5.toNatClampNeg)] σ (fun σ2 =>
      Wq 296 (d + 1) 151 [some (.ref 103), none, none, some (.int v3), some (.int v4), some (.int (v5 + (1 : Int32)))] [] σ2 Q)))) ∧
     ((σ.1 108 ((((60 : Int32) * v4) + v5).toNatClampNeg)) = (127 : Int32) →
      (vp_in v5 8 ∧
      (Cv d 297 [.ref 103, .long (((σ.2.1 149 v5.toNatClampNeg).toInt32).toInt64)] σ (fun σ3 =>
      Wq 296 (d + 1) 151 [some (.ref 103), none, none, some (.int v3), some (.int v4), some (.int (v5 + (1 : Int32)))] [] σ3 Q)))))))))) :
  Wq 296 (d + 1) 151 [some (.ref 103), none, none, some (.int v3), some (.int v4), some (.int v5)] [] σ Q := by
  exact fk_run_sound (B := B_M_run) (C := C_M_run) (n := 32) ok_M_run h
set_option maxRecDepth 100000 in
set_option maxHeartbeats 4000000 in
theorem S_M_run_234 {d : Nat} {v4 : Int32} {s0 : Int32} {σ : fkS} {Q : Option Value → fkS → Prop} 
  (h : ((s0 = 0 →
    Wq 296 (d + 1) 267 [some (.ref 103), none, none, none, none, some (.int s0)] [.long (0 : Int64), .ref 103] σ Q) ∧
   (¬ s0 = 0 →
    (vp_in v4 120 ∧
    (((σ.1 109 v4.toNatClampNeg) = 0 →
      Wq 296 (d + 1) 267 [some (.ref 103), none, none, none, none, some (.int s0)] [.long (0 : Int64), .ref 103] σ Q) ∧
     (¬ (σ.1 109 v4.toNatClampNeg) = 0 →
      (vp_in ((σ.1 103 66) - (1 : Int32)) 140000 ∧
      Wq 296 (d + 1) 267 [some (.ref 103), none, none, none, none, some (.int s0)] [.long (σ.2.1 150 (((σ.1 103 66) - (1 : Int32)).toNatClampNeg)), .ref 103] σ Q))))))) :
  Wq 296 (d + 1) 234 [some (.ref 103), none, none, none, some (.int v4), none] [.int s0] σ Q := by
  exact fk_run_sound (B := B_M_run) (C := C_M_run) (n := 32) ok_M_run h
set_option maxRecDepth 100000 in
set_option maxHeartbeats 4000000 in
theorem S_M_run_267 {d : Nat} {v5 : Int32} {s1 : Int64} {σ : fkS} {Q : Option Value → fkS → Prop} 
  (h : ((v5 = 0 →
    (((σ.1 103 71) = 0 →
      Q (some (.int (2 : Int32))) (sI (sI (sL σ 103 75 s1) 103 76 (σ.1 103 69)) 103 77 (σ.1 103 68))) ∧
     (¬ (σ.1 103 71) = 0 →
      Q (some (.int (1 : Int32))) (sI (sI (sL σ 103 75 s1) 103 76 (σ.1 103 69)) 103 77 (σ.1 103 68))))) ∧
   (¬ v5 = 0 →
    Q (some (.int (0 : Int32))) (sI (sI (sL σ 103 75 s1) 103 76 (σ.1 103 69)) 103 77 (σ.1 103 68))))) :
  Wq 296 (d + 1) 267 [some (.ref 103), none, none, none, none, some (.int v5)] [.long s1, .ref 103] σ Q := by
  exact fk_run_sound (B := B_M_run) (C := C_M_run) (n := 32) ok_M_run h
def B_M_pushes : fkB := [(0, [(.aload_n 0, 1, []), (.getfield 156, 3, [12, 64, 1941, 0]), (.aload_n 0, 1, []), (.getfield 517, 3, [12, 66, 1943, 0]), (.lload_n 1, 1, []), (.lastore, 1, []), (.aload_n 0, 1, []), (.dup, 1, []), (.getfield 517, 3, [12, 66, 1943, 0]), (.iconst 1, 1, []), (.iadd, 1, []), (.putfield 517, 3, [12, 66, 1943, 0]), (.return_, 1, [])])]
set_option maxRecDepth 100000 in
theorem ok_M_pushes : fk_okM 297 B_M_pushes = true := by decide +kernel
abbrev C_M_pushes : fkC := []
set_option maxRecDepth 100000 in
set_option maxHeartbeats 4000000 in
theorem S_M_pushes {d : Nat} {a0 : Int64} {σ : fkS} {Q : Option Value → fkS → Prop} 
  (h : (vp_in (σ.1 103 66) 140000 ∧
  Q none (sI (sL σ 150 ((σ.1 103 66).toNatClampNeg) a0) 103 66 ((σ.1 103 66) + (1 : Int32))))) :
  Cl d 297 [.ref 103, .long a0] σ Q := by
  exact Cl.run B_M_pushes C_M_pushes 4 fk_q297 ok_M_pushes rfl h
def B_M_enters : fkB := [(0, [(.aload_n 0, 1, []), (.getfield 529, 3, [12, 70, 1947, 0]), (.bipush 64, 2, []), (.if_icmp .ne 10, 3, [16])]),
  (9, [(.aload_n 0, 1, []), (.bipush 8, 2, []), (.invokevirtual 557, 3, [299, 1, 2555, 0, 0, 12]), (.return_, 1, [])]),
  (16, [(.bipush 110, 2, []), (.aload_n 0, 1, []), (.getfield 529, 3, [12, 70, 1947, 0]), (.imul, 1, []), (.istore_n 2, 1, []), (.aload_n 0, 1, []), (.dup, 1, []), (.getfield 529, 3, [12, 70, 1947, 0]), (.iconst 1, 1, []), (.iadd, 1, []), (.putfield 529, 3, [12, 70, 1947, 0]), (.aload_n 0, 1, []), (.iload_n 1, 1, []), (.invokevirtual 514, 3, [294, 1, 2535, 0, 1, 12]), (.istore_n 3, 1, []), (.bipush 60, 2, []), (.aload_n 0, 1, []), (.getfield 493, 3, [12, 37, 1914, 0]), (.imul, 1, []), (.iload_n 1, 1, []), (.iadd, 1, []), (.istore 4, 2, []), (.aload_n 0, 1, []), (.dup, 1, []), (.getfield 517, 3, [12, 66, 1943, 0]), (.aload_n 0, 1, []), (.getfield 23, 3, [12, 5, 1882, 0]), (.iload_n 3, 1, []), (.iaload, 1, []), (.isub, 1, []), (.putfield 517, 3, [12, 66, 1943, 0]), (.iconst 0, 1, []), (.istore 5, 2, [])]),
  (69, [(.iload 5, 2, []), (.aload_n 0, 1, []), (.getfield 23, 3, [12, 5, 1882, 0]), (.iload_n 3, 1, []), (.iaload, 1, []), (.if_icmp .ge 30, 3, [107])]),
  (80, [(.aload_n 0, 1, []), (.getfield 159, 3, [12, 65, 1942, 0]), (.iload_n 2, 1, []), (.iload 5, 2, []), (.iadd, 1, []), (.aload_n 0, 1, []), (.getfield 156, 3, [12, 64, 1941, 0]), (.aload_n 0, 1, []), (.getfield 517, 3, [12, 66, 1943, 0]), (.iload 5, 2, []), (.iadd, 1, []), (.laload, 1, []), (.lastore, 1, []), (.iinc 5 1, 3, []), (.goto (-35), 3, [69])]),
  (107, [(.iconst 0, 1, []), (.istore 5, 2, [])]),
  (110, [(.iload 5, 2, []), (.aload_n 0, 1, []), (.getfield 105, 3, [12, 32, 1909, 0]), (.iload 4, 2, []), (.iaload, 1, []), (.if_icmp .ge 26, 3, [145])]),
  (122, [(.aload_n 0, 1, []), (.getfield 159, 3, [12, 65, 1942, 0]), (.iload_n 2, 1, []), (.aload_n 0, 1, []), (.getfield 23, 3, [12, 5, 1882, 0]), (.iload_n 3, 1, []), (.iaload, 1, []), (.iadd, 1, []), (.iload 5, 2, []), (.iadd, 1, []), (.lconst 0, 1, []), (.lastore, 1, []), (.iinc 5 1, 3, []), (.goto (-32), 3, [110])]),
  (145, [(.aload_n 0, 1, []), (.getfield 517, 3, [12, 66, 1943, 0]), (.istore 5, 2, []), (.aload_n 0, 1, []), (.getfield 532, 3, [12, 74, 1951, 0]), (.istore 6, 2, []), (.aload_n 0, 1, []), (.getfield 296, 3, [12, 40, 1917, 0]), (.istore 7, 2, []), (.aload_n 0, 1, []), (.aload_n 0, 1, []), (.getfield 111, 3, [12, 34, 1911, 0]), (.iload 4, 2, []), (.iaload, 1, []), (.putfield 296, 3, [12, 40, 1917, 0]), (.iconst 1, 1, []), (.istore 8, 2, [])]),
  (177, [(.iload 8, 2, []), (.ifCond .eq 15, 3, [194])]),
  (182, [(.aload_n 0, 1, []), (.iload_n 2, 1, []), (.iload 6, 2, []), (.invokevirtual 560, 3, [300, 2, 2559, 0, 1, 12]), (.istore 8, 2, []), (.goto (-14), 3, [177])]),
  (194, [(.aload_n 0, 1, []), (.getfield 526, 3, [12, 69, 1946, 0]), (.ifCond .ne 48, 3, [246])]),
  (201, [(.aload_n 0, 1, []), (.getfield 535, 3, [12, 71, 1948, 0]), (.ifCond .ne 41, 3, [246])]),
  (208, [(.aload_n 0, 1, []), (.getfield 29, 3, [12, 7, 1884, 0]), (.iload_n 3, 1, []), (.iaload, 1, []), (.ifCond .eq 32, 3, [246])]),
  (217, [(.aload_n 0, 1, []), (.getfield 156, 3, [12, 64, 1941, 0]), (.iload 5, 2, []), (.aload_n 0, 1, []), (.getfield 156, 3, [12, 64, 1941, 0]), (.aload_n 0, 1, []), (.getfield 517, 3, [12, 66, 1943, 0]), (.iconst 1, 1, []), (.isub, 1, []), (.laload, 1, []), (.lastore, 1, []), (.aload_n 0, 1, []), (.iload 5, 2, []), (.iconst 1, 1, []), (.iadd, 1, []), (.putfield 517, 3, [12, 66, 1943, 0]), (.goto 9, 3, [252])]),
  (246, [(.aload_n 0, 1, []), (.iload 5, 2, []), (.putfield 517, 3, [12, 66, 1943, 0])]),
  (252, [(.aload_n 0, 1, []), (.iload 6, 2, []), (.putfield 532, 3, [12, 74, 1951, 0]), (.aload_n 0, 1, []), (.iload 7, 2, []), (.putfield 296, 3, [12, 40, 1917, 0]), (.aload_n 0, 1, []), (.dup, 1, []), (.getfield 529, 3, [12, 70, 1947, 0]), (.iconst 1, 1, []), (.isub, 1, []), (.putfield 529, 3, [12, 70, 1947, 0]), (.return_, 1, [])])]
set_option maxRecDepth 100000 in
theorem ok_M_enters : fk_okM 298 B_M_enters = true := by decide +kernel
abbrev C_M_enters : fkC := [(69, [true, false, true, true, true, true, false, false, false]), (110, [true, false, true, true, true, true, false, false, false]), (177, [true, false, true, true, false, true, true, true, true]), (246, [true, false, false, false, false, true, true, true, false])]
set_option maxRecDepth 100000 in
set_option maxHeartbeats 4000000 in
theorem S_M_enters {d : Nat} {a0 : Int32} {σ : fkS} {Q : Option Value → fkS → Prop} 
  (h : ((¬ (σ.1 103 70) = (64 : Int32) →
    (Ci d 294 [.ref 103, .int a0] (sI σ 103 70 ((σ.1 103 70) + (1 : Int32))) (fun x2 σ1 =>
    (vp_in x2 120 ∧
    Wq 298 (d + 1) 69 [some (.ref 103), none, some (.int ((110 : Int32) * (σ.1 103 70))), some (.int x2), some (.int (((60 : Int32) * (σ1.1 103 37)) + a0)), some (.int (0 : Int32)), none, none, none] [] (sI σ1 103 66 ((σ1.1 103 66) - (σ1.1 107 x2.toNatClampNeg))) Q)))) ∧
   ((σ.1 103 70) = (64 : Int32) →
    (Cv d 299 [.ref 103, .int (8 : Int32)] σ (fun σ3 =>
    Q none σ3))))) :
  Cl (d + 1) 298 [.ref 103, .int a0] σ Q := by
  exact Cl.run B_M_enters C_M_enters 20 fk_q298 ok_M_enters rfl h
set_option maxRecDepth 100000 in
set_option maxHeartbeats 4000000 in
theorem S_M_enters_69 {d : Nat} {v2 : Int32} {v3 : Int32} {v4 : Int32} {v5 : Int32} {σ : fkS} {Q : Option Value → fkS → Prop} 
  (h : (vp_in v3 120 ∧
  (((σ.1 107 v3.toNatClampNeg) ≤ v5 →
    Wq 298 (d + 1) 110 [some (.ref 103), none, some (.int v2), some (.int v3), some (.int v4), some (.int (0 : Int32)), none, none, none] [] σ Q) ∧
   (¬ (σ.1 107 v3.toNatClampNeg) ≤ v5 →
    (vp_in ((σ.1 103 66) + v5) 140000 ∧
    (vp_in (v2 + v5) 7150 ∧
    Wq 298 (d + 1) 69 [some (.ref 103), none, some (.int v2), some (.int v3), some (.int v4), some (.int (v5 + (1 : Int32))), none, none, none] [] (sL σ 151 ((v2 + v5).toNatClampNeg) (σ.2.1 150 (((σ.1 103 66) + v5).toNatClampNeg))) Q)))))) :
  Wq 298 (d + 1) 69 [some (.ref 103), none, some (.int v2), some (.int v3), some (.int v4), some (.int v5), none, none, none] [] σ Q := by
  exact fk_run_sound (B := B_M_enters) (C := C_M_enters) (n := 20) ok_M_enters h
set_option maxRecDepth 100000 in
set_option maxHeartbeats 4000000 in
theorem S_M_enters_110 {d : Nat} {v2 : Int32} {v3 : Int32} {v4 : Int32} {v5 : Int32} {σ : fkS} {Q : Option Value → fkS → Prop} 
  (h : (vp_in v4 120 ∧
  (((σ.1 134 v4.toNatClampNeg) ≤ v5 →
    (vp_in v4 120 ∧
    Wq 298 (d + 1) 177 [some (.ref 103), none, some (.int v2), some (.int v3), none, some (.int (σ.1 103 66)), some (.int (σ.1 103 74)), some (.int (σ.1 103 40)), some (.int (1 : Int32))] [] (sI σ 103 40 (σ.1 136 v4.toNatClampNeg)) Q)) ∧
   (¬ (σ.1 134 v4.toNatClampNeg) ≤ v5 →
    (vp_in v3 120 ∧
    (vp_in ((v2 + (σ.1 107 v3.toNatClampNeg)) + v5) 7150 ∧
    Wq 298 (d + 1) 110 [some (.ref 103), none, some (.int v2), some (.int v3), some (.int v4), some (.int (v5 + (1 : Int32))), none, none, none] [] (sL σ 151 (((v2 + (σ.1 107 v3.toNatClampNeg)) + v5).toNatClampNeg) (0 : Int64)) Q)))))) :
  Wq 298 (d + 1) 110 [some (.ref 103), none, some (.int v2), some (.int v3), some (.int v4), some (.int v5), none, none, none] [] σ Q := by
  exact fk_run_sound (B := B_M_enters) (C := C_M_enters) (n := 20) ok_M_enters h
set_option maxRecDepth 100000 in
set_option maxHeartbeats 4000000 in
theorem S_M_enters_177 {d : Nat} {v2 : Int32} {v3 : Int32} {v5 : Int32} {v6 : Int32} {v7 : Int32} {v8 : Int32} {σ : fkS} {Q : Option Value → fkS → Prop} 
  (h : ((v8 = 0 →
    ((¬ (σ.1 103 69) = 0 →
      Wq 298 (d + 1) 246 [some (.ref 103), none, none, none, none, some (.int v5), some (.int v6), some (.int v7), none] [] σ Q) ∧
     ((σ.1 103 69) = 0 →
      ((¬ (σ.1 103 71) = 0 →
        Wq 298 (d + 1) 246 [some (.ref 103), none, none, none, none, some (.int v5), some (.int v6), some (.int v7), none] [] σ Q) ∧
       ((σ.1 103 71) = 0 →
        (vp_in v3 120 ∧
        (((σ.1 109 v3.toNatClampNeg) = 0 →
          Wq 298 (d + 1) 246 [some (.ref 103), none, none, none, none, some (.int v5), some (.int v6), some (.int v7), none] [] σ Q) ∧
         (¬ (σ.1 109 v3.toNatClampNeg) = 0 →
          (vp_in ((σ.1 103 66) - (1 : Int32)) 140000 ∧
          (vp_in v5 140000 ∧
          Q none (sI (sI (sI (sI (sL σ 150 v5.toNatClampNeg (σ.2.1 150 (((σ.1 103 66) - (1 : Int32)).toNatClampNeg))) 103 66 (v5 + (1 : Int32))) 103 74 v6) 103 40 v7) 103 70 ((σ.1 103 70) - (1 : Int32))))))))))))) ∧
   (¬ v8 = 0 →
    (Ci d 300 [.ref 103, .int v2, .int v6] σ (fun x2 σ1 =>
    Wq 298 (d + 1) 177 [some (.ref 103), none, some (.int v2), some (.int v3), none, some (.int v5), some (.int v6), some (.int v7), some (.int x2)] [] σ1 Q))))) :
  Wq 298 (d + 1) 177 [some (.ref 103), none, some (.int v2), some (.int v3), none, some (.int v5), some (.int v6), some (.int v7), some (.int v8)] [] σ Q := by
  exact fk_run_sound (B := B_M_enters) (C := C_M_enters) (n := 20) ok_M_enters h
set_option maxRecDepth 100000 in
set_option maxHeartbeats 4000000 in
theorem S_M_enters_246 {d : Nat} {v5 : Int32} {v6 : Int32} {v7 : Int32} {σ : fkS} {Q : Option Value → fkS → Prop} 
  (h : Q none (sI (sI (sI (sI σ 103 66 v5) 103 74 v6) 103 40 v7) 103 70 ((σ.1 103 70) - (1 : Int32)))) :
  Wq 298 (d + 1) 246 [some (.ref 103), none, none, none, none, some (.int v5), some (.int v6), some (.int v7), none] [] σ Q := by
  exact fk_run_sound (B := B_M_enters) (C := C_M_enters) (n := 20) ok_M_enters h
def B_M_traps : fkB := [(0, [(.aload_n 0, 1, []), (.getfield 526, 3, [12, 69, 1946, 0]), (.ifCond .ne 8, 3, [12])]),
  (7, [(.aload_n 0, 1, []), (.iload_n 1, 1, []), (.putfield 526, 3, [12, 69, 1946, 0])]),
  (12, [(.return_, 1, [])])]
set_option maxRecDepth 100000 in
theorem ok_M_traps : fk_okM 299 B_M_traps = true := by decide +kernel
abbrev C_M_traps : fkC := []
set_option maxRecDepth 100000 in
set_option maxHeartbeats 4000000 in
theorem S_M_traps {d : Nat} {a0 : Int32} {σ : fkS} {Q : Option Value → fkS → Prop} 
  (h : ((¬ (σ.1 103 69) = 0 →
    Q none σ) ∧
   ((σ.1 103 69) = 0 →
    Q none (sI σ 103 69 a0)))) :
  Cl d 299 [.ref 103, .int a0] σ Q := by
  exact Cl.run B_M_traps C_M_traps 6 fk_q299 ok_M_traps rfl h
def B_M_goesOn : fkB := [(0, [(.aload_n 0, 1, []), (.getfield 296, 3, [12, 40, 1917, 0]), (.istore_n 3, 1, []), (.aload_n 0, 1, []), (.getfield 17, 3, [12, 3, 1880, 0]), (.sipush 4000, 3, []), (.aload_n 0, 1, []), (.getfield 493, 3, [12, 37, 1914, 0]), (.imul, 1, []), (.iload_n 3, 1, []), (.iadd, 1, []), (.iaload, 1, []), (.istore 4, 2, []), (.aload_n 0, 1, []), (.dup, 1, []), (.getfield 296, 3, [12, 40, 1917, 0]), (.iconst 1, 1, []), (.iadd, 1, []), (.putfield 296, 3, [12, 40, 1917, 0]), (.iload 4, 2, []), (.bipush 11, 2, []), (.if_icmp .ne 25, 3, [61])]),
  (39, [(.aload_n 0, 1, []), (.getfield 532, 3, [12, 74, 1951, 0]), (.iload_n 2, 1, []), (.if_icmp .ne 5, 3, [49])]),
  (47, [(.iconst 0, 1, []), (.ireturn, 1, [])]),
  (49, [(.aload_n 0, 1, []), (.dup, 1, []), (.getfield 532, 3, [12, 74, 1951, 0]), (.iconst 1, 1, []), (.isub, 1, []), (.putfield 532, 3, [12, 74, 1951, 0]), (.iconst 1, 1, []), (.ireturn, 1, [])]),
  (61, [(.iload 4, 2, []), (.iconst 5, 1, []), (.if_icmp .ne 44, 3, [108])]),
  (67, [(.aload_n 0, 1, []), (.dup, 1, []), (.getfield 532, 3, [12, 74, 1951, 0]), (.iconst 1, 1, []), (.isub, 1, []), (.putfield 532, 3, [12, 74, 1951, 0]), (.aload_n 0, 1, []), (.aload_n 0, 1, []), (.getfield 117, 3, [12, 36, 1913, 0]), (.sipush 4000, 3, []), (.aload_n 0, 1, []), (.getfield 493, 3, [12, 37, 1914, 0]), (.imul, 1, []), (.aload_n 0, 1, []), (.getfield 162, 3, [12, 72, 1949, 0]), (.aload_n 0, 1, []), (.getfield 532, 3, [12, 74, 1951, 0]), (.iaload, 1, []), (.iadd, 1, []), (.iaload, 1, []), (.iconst 1, 1, []), (.iadd, 1, []), (.putfield 296, 3, [12, 40, 1917, 0]), (.iconst 1, 1, []), (.ireturn, 1, [])]),
  (108, [(.aload_n 0, 1, []), (.getfield 523, 3, [12, 68, 1945, 0]), (.aload_n 0, 1, []), (.getfield 520, 3, [12, 67, 1944, 0]), (.if_icmp .ne 10, 3, [126])]),
  (119, [(.aload_n 0, 1, []), (.iconst 1, 1, []), (.putfield 535, 3, [12, 71, 1948, 0]), (.iconst 0, 1, []), (.ireturn, 1, [])]),
  (126, [(.aload_n 0, 1, []), (.dup, 1, []), (.getfield 523, 3, [12, 68, 1945, 0]), (.iconst 1, 1, []), (.iadd, 1, []), (.putfield 523, 3, [12, 68, 1945, 0]), (.iload 4, 2, []), (.bipush 12, 2, []), (.if_icmp .lt 18, 3, [158])]),
  (143, [(.iload 4, 2, []), (.bipush 15, 2, []), (.if_icmp .gt 11, 3, [158])]),
  (150, [(.aload_n 0, 1, []), (.iload 4, 2, []), (.iload_n 2, 1, []), (.invokevirtual 563, 3, [301, 2, 2563, 0, 1, 12]), (.ireturn, 1, [])]),
  (158, [(.iload 4, 2, []), (.iconst 2, 1, []), (.if_icmp .lt 19, 3, [180])]),
  (164, [(.iload 4, 2, []), (.iconst 4, 1, []), (.if_icmp .gt 13, 3, [180])]),
  (170, [(.aload_n 0, 1, []), (.iload 4, 2, []), (.iload_n 3, 1, []), (.invokevirtual 566, 3, [306, 2, 2583, 0, 0, 12]), (.goto 10, 3, [187])]),
  (180, [(.aload_n 0, 1, []), (.iload 4, 2, []), (.iload_n 1, 1, []), (.invokevirtual 569, 3, [307, 2, 2587, 0, 0, 12])]),
  (187, [(.aload_n 0, 1, []), (.getfield 526, 3, [12, 69, 1946, 0]), (.ifCond .ne 14, 3, [205])]),
  (194, [(.aload_n 0, 1, []), (.getfield 535, 3, [12, 71, 1948, 0]), (.ifCond .ne 7, 3, [205])]),
  (201, [(.iconst 1, 1, []), (.goto 4, 3, [206])]),
  (205, [(.iconst 0, 1, [])]),
  (206, [(.ireturn, 1, [])])]
set_option maxRecDepth 100000 in
theorem ok_M_goesOn : fk_okM 300 B_M_goesOn = true := by decide +kernel
abbrev C_M_goesOn : fkC := [(158, [true, true, false, true, true]), (180, [true, true, false, false, true])]
set_option maxRecDepth 100000 in
set_option maxHeartbeats 4000000 in
theorem S_M_goesOn {d : Nat} {a0 : Int32} {a1 : Int32} {σ : fkS} {Q : Option Value → fkS → Prop} 
  (h : (vp_in (((4000 : Int32) * (σ.1 103 37)) + (σ.1 103 40)) 8000 ∧
  ((¬ (σ.1 105 ((((4000 : Int32) * (σ.1 103 37)) + (σ.1 103 40)).toNatClampNeg)) = (11 : Int32) →
    ((¬ (σ.1 105 ((((4000 : Int32) * (σ.1 103 37)) + (σ.1 103 40)).toNatClampNeg)) = (5 : Int32) →
      ((¬ (σ.1 103 68) = (σ.1 103 67) →
        (((σ.1 105 ((((4000 : Int32) * (σ.1 103 37)) + (σ.1 103 40)).toNatClampNeg)) < (12 : Int32) →
          Wq 300 (d + 1) 158 [some (.ref 103), some (.int a0), none, some (.int (σ.1 103 40)), some (.int (σ.1 105 ((((4000 : Int32) * (σ.1 103 37)) + (σ.1 103 40)).toNatClampNeg)))] [] (sI (sI σ 103 40 ((σ.1 103 40) + (1 : Int32))) 103 68 ((σ.1 103 68) + (1 : Int32))) Q) ∧
         (¬ (σ.1 105 ((((4000 : Int32) * (σ.1 103 37)) + (σ.1 103 40)).toNatClampNeg)) < (12 : Int32) →
          (((15 : Int32) < (σ.1 105 ((((4000 : Int32) * (σ.1 103 37)) + (σ.1 103 40)).toNatClampNeg)) →
            Wq 300 (d + 1) 158 [some (.ref 103), some (.int a0), none, some (.int (σ.1 103 40)), some (.int (σ.1 105 ((((4000 : Int32) * (σ.1 103 37)) + (σ.1 103 40)).toNatClampNeg)))] [] (sI (sI σ 103 40 ((σ.1 103 40) + (1 : Int32))) 103 68 ((σ.1 103 68) + (1 : Int32))) Q) ∧
           (¬ (15 : Int32) < (σ.1 105 ((((4000 : Int32) * (σ.1 103 37)) + (σ.1 103 40)).toNatClampNeg)) →
            (Ci d 301 [.ref 103, .int (σ.1 105 ((((4000 : Int32) * (σ.1 103 37)) + (σ.1 103 40)).toNatClampNeg)), .int a1] (sI (sI σ 103 40 ((σ.1 103 40) + (1 : Int32))) 103 68 ((σ.1 103 68) + (1 : Int32))) (fun x2 σ1 =>
            fk_bz x2 (Q (some (.int x2)) σ1)))))))) ∧
       ((σ.1 103 68) = (σ.1 103 67) →
        Q (some (.int (0 : Int32))) (sI (sI σ 103 40 ((σ.1 103 40) + (1 : Int32))) 103 71 (1 : Int32))))) ∧
     ((σ.1 105 ((((4000 : Int32) * (σ.1 103 37)) + (σ.1 103 40)).toNatClampNeg)) = (5 : Int32) →
      (vp_in ((σ.1 103 74) - (1 : Int32)) 1365 ∧
      (vp_in (((4000 : Int32) * (σ.1 103 37)) + (σ.1 152 (((σ.1 103 74) - (1 : Int32)).toNatClampNeg))) 8000 ∧
      Q (some (.int (1 : Int32))) (sI (sI (sI σ 103 40 ((σ.1 103 40) + (1 : Int32))) 103 74 ((σ.1 103 74) - (1 : Int32))) 103 40 ((σ.1 138 ((((4000 : Int32) * (σ.1 103 37)) + (σ.1 152 (((σ.1 103 74) - (1 : Int32)).toNatClampNeg))).toNatClampNeg)) + (1 : Int32)))))))) ∧
   ((σ.1 105 ((((4000 : Int32) * (σ.1 103 37)) + (σ.1 103 40)).toNatClampNeg)) = (11 : Int32) →
    ((¬ (σ.1 103 74) = a1 →
      Q (some (.int (1 : Int32))) (sI (sI σ 103 40 ((σ.1 103 40) + (1 : Int32))) 103 74 ((σ.1 103 74) - (1 : Int32)))) ∧
     ((σ.1 103 74) = a1 →
      Q (some (.int (0 : Int32))) (sI σ 103 40 ((σ.1 103 40) + (1 : Int32))))))))) :
  Cl (d + 1) 300 [.ref 103, .int a0, .int a1] σ Q := by
  exact Cl.run B_M_goesOn C_M_goesOn 23 fk_q300 ok_M_goesOn rfl h
set_option maxRecDepth 100000 in
set_option maxHeartbeats 4000000 in
theorem S_M_goesOn_158 {d : Nat} {v1 : Int32} {v3 : Int32} {v4 : Int32} {σ : fkS} {Q : Option Value → fkS → Prop} 
  (h : ((v4 < (2 : Int32) →
    Wq 300 (d + 1) 180 [some (.ref 103), some (.int v1), none, none, some (.int v4)] [] σ Q) ∧
   (¬ v4 < (2 : Int32) →
    (((4 : Int32) < v4 →
      Wq 300 (d + 1) 180 [some (.ref 103), some (.int v1), none, none, some (.int v4)] [] σ Q) ∧
     (¬ (4 : Int32) < v4 →
      (Cv d 306 [.ref 103, .int v4, .int v3] σ (fun σ1 =>
      ((¬ (σ1.1 103 69) = 0 →
        Q (some (.int (0 : Int32))) σ1) ∧
       ((σ1.1 103 69) = 0 →
        ((¬ (σ1.1 103 71) = 0 →
          Q (some (.int (0 : Int32))) σ1) ∧
         ((σ1.1 103 71) = 0 →
          Q (some (.int (1 : Int32))) σ1))))))))))) :
  Wq 300 (d + 1) 158 [some (.ref 103), some (.int v1), none, some (.int v3), some (.int v4)] [] σ Q := by
  exact fk_run_sound (B := B_M_goesOn) (C := C_M_goesOn) (n := 23) ok_M_goesOn h
set_option maxRecDepth 100000 in
set_option maxHeartbeats 4000000 in
theorem S_M_goesOn_180 {d : Nat} {v1 : Int32} {v4 : Int32} {σ : fkS} {Q : Option Value → fkS → Prop} 
  (h : (Cv d 307 [.ref 103, .int v4, .int v1] σ (fun σ1 =>
  ((¬ (σ1.1 103 69) = 0 →
    Q (some (.int (0 : Int32))) σ1) ∧
   ((σ1.1 103 69) = 0 →
    ((¬ (σ1.1 103 71) = 0 →
      Q (some (.int (0 : Int32))) σ1) ∧
     ((σ1.1 103 71) = 0 →
      Q (some (.int (1 : Int32))) σ1))))))) :
  Wq 300 (d + 1) 180 [some (.ref 103), some (.int v1), none, none, some (.int v4)] [] σ Q := by
  exact fk_run_sound (B := B_M_goesOn) (C := C_M_goesOn) (n := 23) ok_M_goesOn h
def B_M_jumps : fkB := [(0, [(.iload_n 1, 1, []), (.bipush 15, 2, []), (.if_icmp .ne 5, 3, [8])]),
  (6, [(.iconst 0, 1, []), (.ireturn, 1, [])]),
  (8, [(.iload_n 1, 1, []), (.bipush 14, 2, []), (.if_icmp .ne 74, 3, [85])]),
  (14, [(.aload_n 0, 1, []), (.invokevirtual 554, 3, [302, 0, 2567, 0, 2, 12]), (.ldc2_w 384, 3, [4294967295, 2403]), (.land, 1, []), (.lstore_n 3, 1, []), (.aload_n 0, 1, []), (.invokevirtual 339, 3, [250, 0, 2359, 0, 1, 12]), (.istore 5, 2, []), (.lconst 0, 1, []), (.lstore 6, 2, []), (.iconst 0, 1, []), (.istore 8, 2, [])]),
  (35, [(.iload 8, 2, []), (.iload 5, 2, []), (.if_icmp .gt 38, 3, [77])]),
  (42, [(.aload_n 0, 1, []), (.invokevirtual 321, 3, [246, 0, 2343, 0, 2, 12]), (.lstore 9, 2, []), (.iload 8, 2, []), (.iload 5, 2, []), (.if_icmp .eq 11, 3, [63])]),
  (55, [(.iload 8, 2, []), (.i2l, 1, []), (.lload_n 3, 1, []), (.lcmp, 1, []), (.ifCond .ne 11, 3, [71])]),
  (63, [(.lload 9, 2, []), (.lstore 6, 2, []), (.iload 5, 2, []), (.istore 8, 2, [])]),
  (71, [(.iinc 8 1, 3, []), (.goto (-39), 3, [35])]),
  (77, [(.aload_n 0, 1, []), (.lload 6, 2, []), (.iload_n 2, 1, []), (.invokevirtual 578, 3, [303, 2, 2571, 0, 1, 12]), (.ireturn, 1, [])]),
  (85, [(.aload_n 0, 1, []), (.invokevirtual 321, 3, [246, 0, 2343, 0, 2, 12]), (.lstore_n 3, 1, []), (.iload_n 1, 1, []), (.bipush 13, 2, []), (.if_icmp .ne 10, 3, [103])]),
  (96, [(.aload_n 0, 1, []), (.invokevirtual 572, 3, [305, 0, 2579, 0, 1, 12]), (.ifCond .eq 12, 3, [112])]),
  (103, [(.aload_n 0, 1, []), (.lload_n 3, 1, []), (.iload_n 2, 1, []), (.invokevirtual 578, 3, [303, 2, 2571, 0, 1, 12]), (.ifCond .eq 7, 3, [116])]),
  (112, [(.iconst 1, 1, []), (.goto 4, 3, [117])]),
  (116, [(.iconst 0, 1, [])]),
  (117, [(.ireturn, 1, [])])]
set_option maxRecDepth 100000 in
theorem ok_M_jumps : fk_okM 301 B_M_jumps = true := by decide +kernel
abbrev C_M_jumps : fkC := [(35, [true, false, true, true, false, true, true, false, true, false, false])]
set_option maxRecDepth 100000 in
set_option maxHeartbeats 4000000 in
theorem S_M_jumps {d : Nat} {a0 : Int32} {a1 : Int32} {σ : fkS} {Q : Option Value → fkS → Prop} 
  (h : ((¬ a0 = (15 : Int32) →
    ((¬ a0 = (14 : Int32) →
      (Cj d 246 [.ref 103] σ (fun x2 σ1 =>
      ((¬ a0 = (13 : Int32) →
        (Ci d 303 [.ref 103, .long x2, .int a1] σ1 (fun x4 σ3 =>
        ((x4 = 0 →
          Q (some (.int (0 : Int32))) σ3) ∧
         (¬ x4 = 0 →
          Q (some (.int (1 : Int32))) σ3))))) ∧
       (a0 = (13 : Int32) →
        (Ci d 305 [.ref 103] σ1 (fun x6 σ5 =>
        ((x6 = 0 →
          Q (some (.int (1 : Int32))) σ5) ∧
         (¬ x6 = 0 →
          (Ci d 303 [.ref 103, .long x2, .int a1] σ5 (fun x8 σ7 =>
          ((x8 = 0 →
            Q (some (.int (0 : Int32))) σ7) ∧
           (¬ x8 = 0 →
            Q (some (.int (1 : Int32))) σ7))))))))))))) ∧
     (a0 = (14 : Int32) →
      (Cj d 302 [.ref 103] σ (fun x10 σ9 =>
      (Ci d 250 [.ref 103] σ9 (fun x12 σ11 =>
      Wq 301 (d + 1) 35 [some (.ref 103), none, some (.int a1), some (.long (x10 &&& (Int64.ofNat 4294967295))), none, some (.int x12), some (.long (0 : Int64)), none, some (.int (0 : Int32)), none, none] [] σ11 Q))))))) ∧
   (a0 = (15 : Int32) →
    Q (some (.int (0 : Int32))) σ))) :
  Cl (d + 1) 301 [.ref 103, .int a0, .int a1] σ Q := by
  exact Cl.run B_M_jumps C_M_jumps 19 fk_q301 ok_M_jumps rfl h
set_option maxRecDepth 100000 in
set_option maxHeartbeats 4000000 in
theorem S_M_jumps_35 {d : Nat} {v2 : Int32} {v3 : Int64} {v5 : Int32} {v6 : Int64} {v8 : Int32} {σ : fkS} {Q : Option Value → fkS → Prop} 
  (h : ((v5 < v8 →
    (Ci d 303 [.ref 103, .long v6, .int v2] σ (fun x2 σ1 =>
    fk_bz x2 (Q (some (.int x2)) σ1)))) ∧
   (¬ v5 < v8 →
    (Cj d 246 [.ref 103] σ (fun x4 σ3 =>
    ((v8 = v5 →
      Wq 301 (d + 1) 35 [some (.ref 103), none, some (.int v2), some (.long v3), none, some (.int v5), some (.long x4), none, some (.int (v5 + (1 : Int32))), none, none] [] σ3 Q) ∧
     (¬ v8 = v5 →
      ((¬ (lg_cmp v8.toInt64 v3) = 0 →
        Wq 301 (d + 1) 35 [some (.ref 103), none, some (.int v2), some (.long v3), none, some (.int v5), some (.long v6), none, some (.int (v8 + (1 : Int32))), none, none] [] σ3 Q) ∧
       ((lg_cmp v8.toInt64 v3) = 0 →
        Wq 301 (d + 1) 35 [some (.ref 103), none, some (.int v2), some (.long v3), none, some (.int v5), some (.long x4), none, some (.int (v5 + (1 : Int32))), none, none] [] σ3 Q))))))))) :
  Wq 301 (d + 1) 35 [some (.ref 103), none, some (.int v2), some (.long v3), none, some (.int v5), some (.long v6), none, some (.int v8), none, none] [] σ Q := by
  exact fk_run_sound (B := B_M_jumps) (C := C_M_jumps) (n := 19) ok_M_jumps h
def B_M_pops : fkB := [(0, [(.aload_n 0, 1, []), (.dup, 1, []), (.getfield 517, 3, [12, 66, 1943, 0]), (.iconst 1, 1, []), (.isub, 1, []), (.putfield 517, 3, [12, 66, 1943, 0]), (.aload_n 0, 1, []), (.getfield 156, 3, [12, 64, 1941, 0]), (.aload_n 0, 1, []), (.getfield 517, 3, [12, 66, 1943, 0]), (.laload, 1, []), (.lreturn, 1, [])])]
set_option maxRecDepth 100000 in
theorem ok_M_pops : fk_okM 302 B_M_pops = true := by decide +kernel
abbrev C_M_pops : fkC := []
set_option maxRecDepth 100000 in
set_option maxHeartbeats 4000000 in
theorem S_M_pops {d : Nat}  {σ : fkS} {Q : Option Value → fkS → Prop} 
  (h : (vp_in ((σ.1 103 66) - (1 : Int32)) 140000 ∧
  Q (some (.long (σ.2.1 150 (((σ.1 103 66) - (1 : Int32)).toNatClampNeg)))) (sI σ 103 66 ((σ.1 103 66) - (1 : Int32))))) :
  Cl d 302 [.ref 103] σ Q := by
  exact Cl.run B_M_pops C_M_pops 4 fk_q302 ok_M_pops rfl h
def B_M_branch : fkB := [(0, [(.aload_n 0, 1, []), (.getfield 532, 3, [12, 74, 1951, 0]), (.iconst 1, 1, []), (.isub, 1, []), (.lload_n 1, 1, []), (.l2i, 1, []), (.isub, 1, []), (.istore 4, 2, []), (.iload 4, 2, []), (.iload_n 3, 1, []), (.if_icmp .ge 5, 3, [19])]),
  (17, [(.iconst 0, 1, []), (.ireturn, 1, [])]),
  (19, [(.aload_n 0, 1, []), (.getfield 162, 3, [12, 72, 1949, 0]), (.iload 4, 2, []), (.iaload, 1, []), (.istore 5, 2, []), (.aload_n 0, 1, []), (.getfield 17, 3, [12, 3, 1880, 0]), (.sipush 4000, 3, []), (.aload_n 0, 1, []), (.getfield 493, 3, [12, 37, 1914, 0]), (.imul, 1, []), (.iload 5, 2, []), (.iadd, 1, []), (.iaload, 1, []), (.iconst 3, 1, []), (.if_icmp .ne 7, 3, [52])]),
  (48, [(.iconst 1, 1, []), (.goto 4, 3, [53])]),
  (52, [(.iconst 0, 1, [])]),
  (53, [(.istore 6, 2, []), (.iload 6, 2, []), (.ifCond .ne 18, 3, [75])]),
  (60, [(.aload_n 0, 1, []), (.iload 5, 2, []), (.invokevirtual 575, 3, [304, 1, 2575, 0, 1, 12]), (.bipush 64, 2, []), (.if_icmp .eq 7, 3, [75])]),
  (71, [(.iconst 1, 1, []), (.goto 4, 3, [76])]),
  (75, [(.iconst 0, 1, [])]),
  (76, [(.istore 7, 2, []), (.iload 7, 2, []), (.ifCond .eq 17, 3, [97])]),
  (83, [(.aload_n 0, 1, []), (.getfield 156, 3, [12, 64, 1941, 0]), (.aload_n 0, 1, []), (.getfield 517, 3, [12, 66, 1943, 0]), (.iconst 1, 1, []), (.isub, 1, []), (.laload, 1, []), (.goto 4, 3, [98])]),
  (97, [(.lconst 0, 1, [])]),
  (98, [(.lstore 8, 2, []), (.aload_n 0, 1, []), (.aload_n 0, 1, []), (.getfield 165, 3, [12, 73, 1950, 0]), (.iload 4, 2, []), (.iaload, 1, []), (.putfield 517, 3, [12, 66, 1943, 0]), (.iload 7, 2, []), (.ifCond .eq 9, 3, [122])]),
  (116, [(.aload_n 0, 1, []), (.lload 8, 2, []), (.invokevirtual 538, 3, [297, 1, 2547, 0, 0, 12])]),
  (122, [(.aload_n 0, 1, []), (.iload 6, 2, []), (.ifCond .eq 10, 3, [135])]),
  (128, [(.iload 4, 2, []), (.iconst 1, 1, []), (.iadd, 1, []), (.goto 5, 3, [137])]),
  (135, [(.iload 4, 2, [])]),
  (137, [(.putfield 532, 3, [12, 74, 1951, 0]), (.aload_n 0, 1, []), (.iload 6, 2, []), (.ifCond .eq 10, 3, [153])]),
  (146, [(.iload 5, 2, []), (.iconst 2, 1, []), (.iadd, 1, []), (.goto 21, 3, [171])]),
  (153, [(.aload_n 0, 1, []), (.getfield 117, 3, [12, 36, 1913, 0]), (.sipush 4000, 3, []), (.aload_n 0, 1, []), (.getfield 493, 3, [12, 37, 1914, 0]), (.imul, 1, []), (.iload 5, 2, []), (.iadd, 1, []), (.iaload, 1, []), (.iconst 1, 1, []), (.iadd, 1, [])]),
  (171, [(.putfield 296, 3, [12, 40, 1917, 0]), (.iconst 1, 1, []), (.ireturn, 1, [])])]
set_option maxRecDepth 100000 in
theorem ok_M_branch : fk_okM 303 B_M_branch = true := by decide +kernel
abbrev C_M_branch : fkC := [(53, [true, false, false, false, true, true, false, false, false, false]), (98, [true, false, false, false, true, true, true, true, false, false]), (137, [true, false, false, false, false, true, true, false, false, false])]
set_option maxRecDepth 100000 in
set_option maxHeartbeats 4000000 in
theorem S_M_branch {d : Nat} {a0 : Int64} {a1 : Int32} {σ : fkS} {Q : Option Value → fkS → Prop} 
  (h : ((a1 ≤ (((σ.1 103 74) - (1 : Int32)) - a0.toInt32) →
    (vp_in (((σ.1 103 74) - (1 : Int32)) - a0.toInt32) 1365 ∧
    (vp_in (((4000 : Int32) * (σ.1 103 37)) + (σ.1 152 ((((σ.1 103 74) - (1 : Int32)) - a0.toInt32).toNatClampNeg))) 8000 ∧
    ((¬ (σ.1 105 ((((4000 : Int32) * (σ.1 103 37)) + (σ.1 152 ((((σ.1 103 74) - (1 : Int32)) - a0.toInt32).toNatClampNeg))).toNatClampNeg)) = (3 : Int32) →
      Wq 303 (d + 1) 53 [some (.ref 103), none, none, none, some (.int (((σ.1 103 74) - (1 : Int32)) - a0.toInt32)), some (.int (σ.1 152 ((((σ.1 103 74) - (1 : Int32)) - a0.toInt32).toNatClampNeg))), none, none, none, none] [.int (0 : Int32)] σ Q) ∧
     ((σ.1 105 ((((4000 : Int32) * (σ.1 103 37)) + (σ.1 152 ((((σ.1 103 74) - (1 : Int32)) - a0.toInt32).toNatClampNeg))).toNatClampNeg)) = (3 : Int32) →
      Wq 303 (d + 1) 53 [some (.ref 103), none, none, none, some (.int (((σ.1 103 74) - (1 : Int32)) - a0.toInt32)), some (.int (σ.1 152 ((((σ.1 103 74) - (1 : Int32)) - a0.toInt32).toNatClampNeg))), none, none, none, none] [.int (1 : Int32)] σ Q))))) ∧
   (¬ a1 ≤ (((σ.1 103 74) - (1 : Int32)) - a0.toInt32) →
    Q (some (.int (0 : Int32))) σ))) :
  Cl (d + 1) 303 [.ref 103, .long a0, .int a1] σ Q := by
  exact Cl.run B_M_branch C_M_branch 24 fk_q303 ok_M_branch rfl h
set_option maxRecDepth 100000 in
set_option maxHeartbeats 4000000 in
theorem S_M_branch_53 {d : Nat} {v4 : Int32} {v5 : Int32} {s0 : Int32} {σ : fkS} {Q : Option Value → fkS → Prop} 
  (h : ((¬ s0 = 0 →
    (((0 : Int32) = 0 →
      Wq 303 (d + 1) 98 [some (.ref 103), none, none, none, some (.int v4), some (.int v5), some (.int s0), some (.int (0 : Int32)), none, none] [.long (0 : Int64)] σ Q) ∧
     (¬ (0 : Int32) = 0 →
      (vp_in ((σ.1 103 66) - (1 : Int32)) 140000 ∧
      Wq 303 (d + 1) 98 [some (.ref 103), none, none, none, some (.int v4), some (.int v5), some (.int s0), some (.int (0 : Int32)), none, none] [.long (σ.2.1 150 (((σ.1 103 66) - (1 : Int32)).toNatClampNeg))] σ Q)))) ∧
   (s0 = 0 →
    (Ci d 304 [.ref 103, .int v5] σ (fun x2 σ1 =>
    ((x2 = (64 : Int32) →
      (((0 : Int32) = 0 →
        Wq 303 (d + 1) 98 [some (.ref 103), none, none, none, some (.int v4), some (.int v5), some (.int s0), some (.int (0 : Int32)), none, none] [.long (0 : Int64)] σ1 Q) ∧
       (¬ (0 : Int32) = 0 →
        (vp_in ((σ1.1 103 66) - (1 : Int32)) 140000 ∧
        Wq 303 (d + 1) 98 [some (.ref 103), none, none, none, some (.int v4), some (.int v5), some (.int s0), some (.int (0 : Int32)), none, none] [.long (σ1.2.1 150 (((σ1.1 103 66) - (1 : Int32)).toNatClampNeg))] σ1 Q)))) ∧
     (¬ x2 = (64 : Int32) →
      (((1 : Int32) = 0 →
        Wq 303 (d + 1) 98 [some (.ref 103), none, none, none, some (.int v4), some (.int v5), some (.int s0), some (.int (1 : Int32)), none, none] [.long (0 : Int64)] σ1 Q) ∧
       (¬ (1 : Int32) = 0 →
        (vp_in ((σ1.1 103 66) - (1 : Int32)) 140000 ∧
        Wq 303 (d + 1) 98 [some (.ref 103), none, none, none, some (.int v4), some (.int v5), some (.int s0), some (.int (1 : Int32)), none, none] [.long (σ1.2.1 150 (((σ1.1 103 66) - (1 : Int32)).toNatClampNeg))] σ1 Q)))))))))) :
  Wq 303 (d + 1) 53 [some (.ref 103), none, none, none, some (.int v4), some (.int v5), none, none, none, none] [.int s0] σ Q := by
  exact fk_run_sound (B := B_M_branch) (C := C_M_branch) (n := 24) ok_M_branch h
set_option maxRecDepth 100000 in
set_option maxHeartbeats 4000000 in
theorem S_M_branch_98 {d : Nat} {v4 : Int32} {v5 : Int32} {v6 : Int32} {v7 : Int32} {s0 : Int64} {σ : fkS} {Q : Option Value → fkS → Prop} 
  (h : (vp_in v4 1365 ∧
  ((v7 = 0 →
    ((v6 = 0 →
      Wq 303 (d + 1) 137 [some (.ref 103), none, none, none, none, some (.int v5), some (.int v6), none, none, none] [.int v4, .ref 103] (sI σ 103 66 (σ.1 153 v4.toNatClampNeg)) Q) ∧
     (¬ v6 = 0 →
      Wq 303 (d + 1) 137 [some (.ref 103), none, none, none, none, some (.int v5), some (.int v6), none, none, none] [.int (v4 + (1 : Int32)), .ref 103] (sI σ 103 66 (σ.1 153 v4.toNatClampNeg)) Q))) ∧
   (¬ v7 = 0 →
    (Cv d 297 [.ref 103, .long s0] (sI σ 103 66 (σ.1 153 v4.toNatClampNeg)) (fun σ1 =>
    ((v6 = 0 →
      Wq 303 (d + 1) 137 [some (.ref 103), none, none, none, none, some (.int v5), some (.int v6), none, none, none] [.int v4, .ref 103] σ1 Q) ∧
     (¬ v6 = 0 →
      Wq 303 (d + 1) 137 [some (.ref 103), none, none, none, none, some (.int v5), some (.int v6), none, none, none] [.int (v4 + (1 : Int32)), .ref 103] σ1 Q)))))))) :
  Wq 303 (d + 1) 98 [some (.ref 103), none, none, none, some (.int v4), some (.int v5), some (.int v6), some (.int v7), none, none] [.long s0] σ Q := by
  exact fk_run_sound (B := B_M_branch) (C := C_M_branch) (n := 24) ok_M_branch h
set_option maxRecDepth 100000 in
set_option maxHeartbeats 4000000 in
theorem S_M_branch_137 {d : Nat} {v5 : Int32} {v6 : Int32} {s1 : Int32} {σ : fkS} {Q : Option Value → fkS → Prop} 
  (h : ((v6 = 0 →
    (vp_in (((4000 : Int32) * (σ.1 103 37)) + v5) 8000 ∧
    Q (some (.int (1 : Int32))) (sI (sI σ 103 74 s1) 103 40 ((σ.1 138 ((((4000 : Int32) * (σ.1 103 37)) + v5).toNatClampNeg)) + (1 : Int32))))) ∧
   (¬ v6 = 0 →
    Q (some (.int (1 : Int32))) (sI (sI σ 103 74 s1) 103 40 (v5 + (2 : Int32)))))) :
  Wq 303 (d + 1) 137 [some (.ref 103), none, none, none, none, some (.int v5), some (.int v6), none, none, none] [.int s1, .ref 103] σ Q := by
  exact fk_run_sound (B := B_M_branch) (C := C_M_branch) (n := 24) ok_M_branch h
def B_M_blockType : fkB := [(0, [(.aload_n 0, 1, []), (.getfield 17, 3, [12, 3, 1880, 0]), (.sipush 4000, 3, []), (.aload_n 0, 1, []), (.getfield 493, 3, [12, 37, 1914, 0]), (.imul, 1, []), (.iload_n 1, 1, []), (.iadd, 1, []), (.iconst 1, 1, []), (.iadd, 1, []), (.iaload, 1, []), (.ireturn, 1, [])])]
set_option maxRecDepth 100000 in
theorem ok_M_blockType : fk_okM 304 B_M_blockType = true := by decide +kernel
abbrev C_M_blockType : fkC := []
set_option maxRecDepth 100000 in
set_option maxHeartbeats 4000000 in
theorem S_M_blockType {d : Nat} {a0 : Int32} {σ : fkS} {Q : Option Value → fkS → Prop} 
  (h : (vp_in ((((4000 : Int32) * (σ.1 103 37)) + a0) + (1 : Int32)) 8000 ∧
  Q (some (.int (σ.1 105 (((((4000 : Int32) * (σ.1 103 37)) + a0) + (1 : Int32)).toNatClampNeg)))) σ)) :
  Cl d 304 [.ref 103, .int a0] σ Q := by
  exact Cl.run B_M_blockType C_M_blockType 4 fk_q304 ok_M_blockType rfl h
def B_M_popInt : fkB := [(0, [(.aload_n 0, 1, []), (.invokevirtual 554, 3, [302, 0, 2567, 0, 2, 12]), (.l2i, 1, []), (.ireturn, 1, [])])]
set_option maxRecDepth 100000 in
theorem ok_M_popInt : fk_okM 305 B_M_popInt = true := by decide +kernel
abbrev C_M_popInt : fkC := []
set_option maxRecDepth 100000 in
set_option maxHeartbeats 4000000 in
theorem S_M_popInt {d : Nat}  {σ : fkS} {Q : Option Value → fkS → Prop} 
  (h : (Cj d 302 [.ref 103] σ (fun x2 σ1 =>
  Q (some (.int x2.toInt32)) σ1))) :
  Cl (d + 1) 305 [.ref 103] σ Q := by
  exact Cl.run B_M_popInt C_M_popInt 4 fk_q305 ok_M_popInt rfl h
def B_M_blocksOn : fkB := [(0, [(.aload_n 0, 1, []), (.iload_n 2, 1, []), (.iconst 2, 1, []), (.iadd, 1, []), (.putfield 296, 3, [12, 40, 1917, 0]), (.iload_n 1, 1, []), (.iconst 4, 1, []), (.if_icmp .ne 59, 3, [68])]),
  (12, [(.aload_n 0, 1, []), (.invokevirtual 572, 3, [305, 0, 2579, 0, 1, 12]), (.ifCond .ne 52, 3, [68])]),
  (19, [(.aload_n 0, 1, []), (.getfield 114, 3, [12, 35, 1912, 0]), (.sipush 4000, 3, []), (.aload_n 0, 1, []), (.getfield 493, 3, [12, 37, 1914, 0]), (.imul, 1, []), (.iload_n 2, 1, []), (.iadd, 1, []), (.iaload, 1, []), (.istore_n 3, 1, []), (.iload_n 3, 1, []), (.ifCond .ge 25, 3, [61])]),
  (39, [(.aload_n 0, 1, []), (.aload_n 0, 1, []), (.getfield 117, 3, [12, 36, 1913, 0]), (.sipush 4000, 3, []), (.aload_n 0, 1, []), (.getfield 493, 3, [12, 37, 1914, 0]), (.imul, 1, []), (.iload_n 2, 1, []), (.iadd, 1, []), (.iaload, 1, []), (.iconst 1, 1, []), (.iadd, 1, []), (.putfield 296, 3, [12, 40, 1917, 0]), (.return_, 1, [])]),
  (61, [(.aload_n 0, 1, []), (.iload_n 3, 1, []), (.iconst 1, 1, []), (.iadd, 1, []), (.putfield 296, 3, [12, 40, 1917, 0])]),
  (68, [(.aload_n 0, 1, []), (.getfield 162, 3, [12, 72, 1949, 0]), (.aload_n 0, 1, []), (.getfield 532, 3, [12, 74, 1951, 0]), (.iload_n 2, 1, []), (.iastore, 1, []), (.aload_n 0, 1, []), (.getfield 165, 3, [12, 73, 1950, 0]), (.aload_n 0, 1, []), (.getfield 532, 3, [12, 74, 1951, 0]), (.aload_n 0, 1, []), (.getfield 517, 3, [12, 66, 1943, 0]), (.iastore, 1, []), (.aload_n 0, 1, []), (.dup, 1, []), (.getfield 532, 3, [12, 74, 1951, 0]), (.iconst 1, 1, []), (.iadd, 1, []), (.putfield 532, 3, [12, 74, 1951, 0]), (.return_, 1, [])])]
set_option maxRecDepth 100000 in
theorem ok_M_blocksOn : fk_okM 306 B_M_blocksOn = true := by decide +kernel
abbrev C_M_blocksOn : fkC := [(68, [true, false, true, false])]
set_option maxRecDepth 100000 in
set_option maxHeartbeats 4000000 in
theorem S_M_blocksOn {d : Nat} {a0 : Int32} {a1 : Int32} {σ : fkS} {Q : Option Value → fkS → Prop} 
  (h : ((¬ a0 = (4 : Int32) →
    Wq 306 (d + 1) 68 [some (.ref 103), none, some (.int a1), none] [] (sI σ 103 40 (a1 + (2 : Int32))) Q) ∧
   (a0 = (4 : Int32) →
    (Ci d 305 [.ref 103] (sI σ 103 40 (a1 + (2 : Int32))) (fun x2 σ1 =>
    ((¬ x2 = 0 →
      Wq 306 (d + 1) 68 [some (.ref 103), none, some (.int a1), none] [] σ1 Q) ∧
     (x2 = 0 →
      (vp_in (((4000 : Int32) * (σ1.1 103 37)) + a1) 8000 ∧
      ((0 ≤ (σ1.1 137 ((((4000 : Int32) * (σ1.1 103 37)) + a1).toNatClampNeg)) →
        Wq 306 (d + 1) 68 [some (.ref 103), none, some (.int a1), none] [] (sI σ1 103 40 ((σ1.1 137 ((((4000 : Int32) * (σ1.1 103 37)) + a1).toNatClampNeg)) + (1 : Int32))) Q) ∧
       (¬ 0 ≤ (σ1.1 137 ((((4000 : Int32) * (σ1.1 103 37)) + a1).toNatClampNeg)) →
        (vp_in (((4000 : Int32) * (σ1.1 103 37)) + a1) 8000 ∧
        Q none (sI σ1 103 40 ((σ1.1 138 ((((4000 : Int32) * (σ1.1 103 37)) + a1).toNatClampNeg)) + (1 : Int32)))))))))))))) :
  Cl (d + 1) 306 [.ref 103, .int a0, .int a1] σ Q := by
  exact Cl.run B_M_blocksOn C_M_blocksOn 9 fk_q306 ok_M_blocksOn rfl h
set_option maxRecDepth 100000 in
set_option maxHeartbeats 4000000 in
theorem S_M_blocksOn_68 {d : Nat} {v2 : Int32} {σ : fkS} {Q : Option Value → fkS → Prop} 
  (h : (vp_in (σ.1 103 74) 1365 ∧
  (vp_in (σ.1 103 74) 1365 ∧
  Q none (sI (sI (sI σ 152 ((σ.1 103 74).toNatClampNeg) v2) 153 ((σ.1 103 74).toNatClampNeg) (σ.1 103 66)) 103 74 ((σ.1 103 74) + (1 : Int32)))))) :
  Wq 306 (d + 1) 68 [some (.ref 103), none, some (.int v2), none] [] σ Q := by
  exact fk_run_sound (B := B_M_blocksOn) (C := C_M_blocksOn) (n := 9) ok_M_blocksOn h
def B_M_does : fkB := [(0, [(.iload_n 1, 1, []), (.ifCond .ne 11, 3, [12])]),
  (4, [(.aload_n 0, 1, []), (.iconst 1, 1, []), (.invokevirtual 557, 3, [299, 1, 2555, 0, 0, 12]), (.goto 340, 3, [349])]),
  (12, [(.iload_n 1, 1, []), (.iconst 1, 1, []), (.if_icmp .ne 4, 3, [18])]),
  (17, [(.return_, 1, [])]),
  (18, [(.iload_n 1, 1, []), (.bipush 16, 2, []), (.if_icmp .ne 15, 3, [36])]),
  (24, [(.aload_n 0, 1, []), (.aload_n 0, 1, []), (.invokevirtual 321, 3, [246, 0, 2343, 0, 2, 12]), (.l2i, 1, []), (.invokevirtual 542, 3, [298, 1, 2551, 0, 0, 12]), (.goto 316, 3, [349])]),
  (36, [(.iload_n 1, 1, []), (.bipush 17, 2, []), (.if_icmp .ne 10, 3, [49])]),
  (42, [(.aload_n 0, 1, []), (.invokevirtual 582, 3, [308, 0, 2591, 0, 0, 12]), (.goto 303, 3, [349])]),
  (49, [(.iload_n 1, 1, []), (.bipush 26, 2, []), (.if_icmp .ne 16, 3, [68])]),
  (55, [(.aload_n 0, 1, []), (.dup, 1, []), (.getfield 517, 3, [12, 66, 1943, 0]), (.iconst 1, 1, []), (.isub, 1, []), (.putfield 517, 3, [12, 66, 1943, 0]), (.goto 284, 3, [349])]),
  (68, [(.iload_n 1, 1, []), (.bipush 27, 2, []), (.if_icmp .ne 42, 3, [113])]),
  (74, [(.aload_n 0, 1, []), (.invokevirtual 572, 3, [305, 0, 2579, 0, 1, 12]), (.ifCond .ne 7, 3, [85])]),
  (81, [(.iconst 1, 1, []), (.goto 4, 3, [86])]),
  (85, [(.iconst 0, 1, [])]),
  (86, [(.istore_n 3, 1, []), (.aload_n 0, 1, []), (.invokevirtual 554, 3, [302, 0, 2567, 0, 2, 12]), (.lstore 4, 2, []), (.iload_n 3, 1, []), (.ifCond .eq 16, 3, [110])]),
  (97, [(.aload_n 0, 1, []), (.getfield 156, 3, [12, 64, 1941, 0]), (.aload_n 0, 1, []), (.getfield 517, 3, [12, 66, 1943, 0]), (.iconst 1, 1, []), (.isub, 1, []), (.lload 4, 2, []), (.lastore, 1, [])]),
  (110, [(.goto 239, 3, [349])]),
  (113, [(.iload_n 1, 1, []), (.bipush 36, 2, []), (.if_icmp .gt 17, 3, [133])]),
  (119, [(.aload_n 0, 1, []), (.iload_n 1, 1, []), (.iload_n 2, 1, []), (.aload_n 0, 1, []), (.invokevirtual 321, 3, [246, 0, 2343, 0, 2, 12]), (.l2i, 1, []), (.invokevirtual 585, 3, [310, 3, 2599, 0, 0, 12]), (.goto 219, 3, [349])]),
  (133, [(.iload_n 1, 1, []), (.bipush 64, 2, []), (.if_icmp .gt 11, 3, [147])]),
  (139, [(.aload_n 0, 1, []), (.iload_n 1, 1, []), (.invokevirtual 588, 3, [311, 1, 2603, 0, 0, 12]), (.goto 205, 3, [349])]),
  (147, [(.iload_n 1, 1, []), (.bipush 65, 2, []), (.if_icmp .ne 16, 3, [166])]),
  (153, [(.aload_n 0, 1, []), (.aload_n 0, 1, []), (.bipush 32, 2, []), (.invokevirtual 380, 3, [257, 1, 2388, 0, 2, 12]), (.invokevirtual 538, 3, [297, 1, 2547, 0, 0, 12]), (.goto 186, 3, [349])]),
  (166, [(.iload_n 1, 1, []), (.bipush 66, 2, []), (.if_icmp .ne 16, 3, [185])]),
  (172, [(.aload_n 0, 1, []), (.aload_n 0, 1, []), (.bipush 64, 2, []), (.invokevirtual 380, 3, [257, 1, 2388, 0, 2, 12]), (.invokevirtual 538, 3, [297, 1, 2547, 0, 0, 12]), (.goto 167, 3, [349])]),
  (185, [(.iload_n 1, 1, []), (.sipush 167, 3, []), (.if_icmp .ne 30, 3, [219])]),
  (192, [(.aload_n 0, 1, []), (.getfield 156, 3, [12, 64, 1941, 0]), (.aload_n 0, 1, []), (.getfield 517, 3, [12, 66, 1943, 0]), (.iconst 1, 1, []), (.isub, 1, []), (.aload_n 0, 1, []), (.getfield 156, 3, [12, 64, 1941, 0]), (.aload_n 0, 1, []), (.getfield 517, 3, [12, 66, 1943, 0]), (.iconst 1, 1, []), (.isub, 1, []), (.laload, 1, []), (.l2i, 1, []), (.i2l, 1, []), (.lastore, 1, []), (.goto 133, 3, [349])]),
  (219, [(.iload_n 1, 1, []), (.sipush 172, 3, []), (.if_icmp .ne 4, 3, [227])]),
  (226, [(.return_, 1, [])]),
  (227, [(.iload_n 1, 1, []), (.sipush 173, 3, []), (.if_icmp .ne 23, 3, [254])]),
  (234, [(.aload_n 0, 1, []), (.getfield 156, 3, [12, 64, 1941, 0]), (.aload_n 0, 1, []), (.getfield 517, 3, [12, 66, 1943, 0]), (.iconst 1, 1, []), (.isub, 1, []), (.dup2, 1, []), (.laload, 1, []), (.ldc2_w 384, 3, [4294967295, 2403]), (.land, 1, []), (.lastore, 1, []), (.goto 98, 3, [349])]),
  (254, [(.iload_n 1, 1, []), (.bipush 69, 2, []), (.if_icmp .eq 9, 3, [266])]),
  (260, [(.iload_n 1, 1, []), (.bipush 80, 2, []), (.if_icmp .ne 38, 3, [301])]),
  (266, [(.aload_n 0, 1, []), (.getfield 156, 3, [12, 64, 1941, 0]), (.aload_n 0, 1, []), (.getfield 517, 3, [12, 66, 1943, 0]), (.iconst 1, 1, []), (.isub, 1, []), (.aload_n 0, 1, []), (.getfield 156, 3, [12, 64, 1941, 0]), (.aload_n 0, 1, []), (.getfield 517, 3, [12, 66, 1943, 0]), (.iconst 1, 1, []), (.isub, 1, []), (.laload, 1, []), (.lconst 0, 1, []), (.lcmp, 1, []), (.ifCond .ne 7, 3, [296])]),
  (292, [(.lconst 1, 1, []), (.goto 4, 3, [297])]),
  (296, [(.lconst 0, 1, [])]),
  (297, [(.lastore, 1, []), (.goto 51, 3, [349])]),
  (301, [(.iload_n 1, 1, []), (.bipush 103, 2, []), (.if_icmp .lt 9, 3, [313])]),
  (307, [(.iload_n 1, 1, []), (.bipush 105, 2, []), (.if_icmp .le 15, 3, [325])]),
  (313, [(.iload_n 1, 1, []), (.bipush 121, 2, []), (.if_icmp .lt 28, 3, [344])]),
  (319, [(.iload_n 1, 1, []), (.bipush 123, 2, []), (.if_icmp .gt 22, 3, [344])]),
  (325, [(.aload_n 0, 1, []), (.getfield 156, 3, [12, 64, 1941, 0]), (.aload_n 0, 1, []), (.getfield 517, 3, [12, 66, 1943, 0]), (.iconst 1, 1, []), (.isub, 1, []), (.aload_n 0, 1, []), (.iload_n 1, 1, []), (.invokevirtual 591, 3, [313, 1, 2612, 0, 2, 12]), (.lastore, 1, []), (.goto 8, 3, [349])]),
  (344, [(.aload_n 0, 1, []), (.iload_n 1, 1, []), (.invokevirtual 594, 3, [314, 1, 2616, 0, 0, 12])]),
  (349, [(.return_, 1, [])])]
set_option maxRecDepth 100000 in
theorem ok_M_does : fk_okM 307 B_M_does = true := by decide +kernel
abbrev C_M_does : fkC := [(86, [true, false, false, false, false, false]), (266, [true, false, false, false, false, false]), (313, [true, true, false, false, false, false])]
set_option maxRecDepth 100000 in
set_option maxHeartbeats 4000000 in
theorem S_M_does {d : Nat} {a0 : Int32} {a1 : Int32} {σ : fkS} {Q : Option Value → fkS → Prop} 
  (h : ((¬ a0 = 0 →
    ((¬ a0 = (1 : Int32) →
      ((¬ a0 = (16 : Int32) →
        ((¬ a0 = (17 : Int32) →
          ((¬ a0 = (26 : Int32) →
            ((¬ a0 = (27 : Int32) →
              (((36 : Int32) < a0 →
                (((64 : Int32) < a0 →
                  ((¬ a0 = (65 : Int32) →
                    ((¬ a0 = (66 : Int32) →
                      ((¬ a0 = (167 : Int32) →
                        ((¬ a0 = (172 : Int32) →
                          ((¬ a0 = (173 : Int32) →
                            ((a0 = (69 : Int32) →
                              Wq 307 (d + 1) 266 [some (.ref 103), none, none, none, none, none] [] σ Q) ∧
                             (¬ a0 = (69 : Int32) →
                              ((¬ a0 = (80 : Int32) →
                                ((a0 < (103 : Int32) →
                                  Wq 307 (d + 1) 313 [some (.ref 103), some (.int a0), none, none, none, none] [] σ Q) ∧
                                 (¬ a0 < (103 : Int32) →
                                  ((a0 ≤ (105 : Int32) →
                                    (Cj d 313 [.ref 103, .int a0] σ (fun x2 σ1 =>
                                    (vp_in ((σ.1 103 66) - (1 : Int32)) 140000 ∧
                                    Q none (sL σ1 150 (((σ.1 103 66) - (1 : Int32)).toNatClampNeg) x2))))) ∧
                                   (¬ a0 ≤ (105 : Int32) →
                                    Wq 307 (d + 1) 313 [some (.ref 103), some (.int a0), none, none, none, none] [] σ Q))))) ∧
                               (a0 = (80 : Int32) →
                                Wq 307 (d + 1) 266 [some (.ref 103), none, none, none, none, none] [] σ Q))))) ∧
                           (a0 = (173 : Int32) →
                            (vp_in ((σ.1 103 66) - (1 : Int32)) 140000 ∧
                            (vp_in ((σ.1 103 66) - (1 : Int32)) 140000 ∧
                            Q none (sL σ 150 (((σ.1 103 66) - (1 : Int32)).toNatClampNeg) ((σ.2.1 150 (((σ.1 103 66) - (1 : Int32)).toNatClampNeg)) &&& (Int64.ofNat 4294967295)))))))) ∧
                         (a0 = (172 : Int32) →
                          Q none σ))) ∧
                       (a0 = (167 : Int32) →
                        (vp_in ((σ.1 103 66) - (1 : Int32)) 140000 ∧
                        (vp_in ((σ.1 103 66) - (1 : Int32)) 140000 ∧
                        Q none (sL σ 150 (((σ.1 103 66) - (1 : Int32)).toNatClampNeg) (((σ.2.1 150 (((σ.1 103 66) - (1 : Int32)).toNatClampNeg)).toInt32).toInt64))))))) ∧
                     (a0 = (66 : Int32) →
                      (Cj d 257 [.ref 103, .int (64 : Int32)] σ (fun x4 σ3 =>
                      (Cv d 297 [.ref 103, .long x4] σ3 (fun σ5 =>
                      Q none σ5))))))) ∧
                   (a0 = (65 : Int32) →
                    (Cj d 257 [.ref 103, .int (32 : Int32)] σ (fun x7 σ6 =>
                    (Cv d 297 [.ref 103, .long x7] σ6 (fun σ8 =>
                    Q none σ8))))))) ∧
                 (¬ (64 : Int32) < a0 →
                  (Cv d 311 [.ref 103, .int a0] σ (fun σ9 =>
                  Q none σ9))))) ∧
               (¬ (36 : Int32) < a0 →
                (Cj d 246 [.ref 103] σ (fun x11 σ10 =>
                (Cv d 310 [.ref 103, .int a0, .int a1, .int x11.toInt32] σ10 (fun σ12 =>
                Q none σ12))))))) ∧
             (a0 = (27 : Int32) →
              (Ci d 305 [.ref 103] σ (fun x14 σ13 =>
              ((¬ x14 = 0 →
                Wq 307 (d + 1) 86 [some (.ref 103), none, none, none, none, none] [.int (0 : Int32)] σ13 Q) ∧
               (x14 = 0 →
                Wq 307 (d + 1) 86 [some (.ref 103), none, none, none, none, none] [.int (1 : Int32)] σ13 Q))))))) ∧
           (a0 = (26 : Int32) →
            Q none (sI σ 103 66 ((σ.1 103 66) - (1 : Int32)))))) ∧
         (a0 = (17 : Int32) →
          (Cv d 308 [.ref 103] σ (fun σ15 =>
          Q none σ15))))) ∧
       (a0 = (16 : Int32) →
        (Cj d 246 [.ref 103] σ (fun x17 σ16 =>
        (Cv d 298 [.ref 103, .int x17.toInt32] σ16 (fun σ18 =>
        Q none σ18))))))) ∧
     (a0 = (1 : Int32) →
      Q none σ))) ∧
   (a0 = 0 →
    (Cv d 299 [.ref 103, .int (1 : Int32)] σ (fun σ19 =>
    Q none σ19))))) :
  Cl (d + 1) 307 [.ref 103, .int a0, .int a1] σ Q := by
  exact Cl.run B_M_does C_M_does 47 fk_q307 ok_M_does rfl h
set_option maxRecDepth 100000 in
set_option maxHeartbeats 4000000 in
theorem S_M_does_86 {d : Nat} {s0 : Int32} {σ : fkS} {Q : Option Value → fkS → Prop} 
  (h : (Cj d 302 [.ref 103] σ (fun x2 σ1 =>
  ((s0 = 0 →
    Q none σ1) ∧
   (¬ s0 = 0 →
    (vp_in ((σ1.1 103 66) - (1 : Int32)) 140000 ∧
    Q none (sL σ1 150 (((σ1.1 103 66) - (1 : Int32)).toNatClampNeg) x2))))))) :
  Wq 307 (d + 1) 86 [some (.ref 103), none, none, none, none, none] [.int s0] σ Q := by
  exact fk_run_sound (B := B_M_does) (C := C_M_does) (n := 47) ok_M_does h
set_option maxRecDepth 100000 in
set_option maxHeartbeats 4000000 in
theorem S_M_does_266 {d : Nat}  {σ : fkS} {Q : Option Value → fkS → Prop} 
  (h : (vp_in ((σ.1 103 66) - (1 : Int32)) 140000 ∧
  ((¬ (lg_cmp (σ.2.1 150 (((σ.1 103 66) - (1 : Int32)).toNatClampNeg)) (0 : Int64)) = 0 →
    (vp_in ((σ.1 103 66) - (1 : Int32)) 140000 ∧
    Q none (sL σ 150 (((σ.1 103 66) - (1 : Int32)).toNatClampNeg) (0 : Int64)))) ∧
   ((lg_cmp (σ.2.1 150 (((σ.1 103 66) - (1 : Int32)).toNatClampNeg)) (0 : Int64)) = 0 →
    (vp_in ((σ.1 103 66) - (1 : Int32)) 140000 ∧
    Q none (sL σ 150 (((σ.1 103 66) - (1 : Int32)).toNatClampNeg) (1 : Int64))))))) :
  Wq 307 (d + 1) 266 [some (.ref 103), none, none, none, none, none] [] σ Q := by
  exact fk_run_sound (B := B_M_does) (C := C_M_does) (n := 47) ok_M_does h
set_option maxRecDepth 100000 in
set_option maxHeartbeats 4000000 in
theorem S_M_does_313 {d : Nat} {v1 : Int32} {σ : fkS} {Q : Option Value → fkS → Prop} 
  (h : ((v1 < (121 : Int32) →
    (Cv d 314 [.ref 103, .int v1] σ (fun σ1 =>
    Q none σ1))) ∧
   (¬ v1 < (121 : Int32) →
    (((123 : Int32) < v1 →
      (Cv d 314 [.ref 103, .int v1] σ (fun σ2 =>
      Q none σ2))) ∧
     (¬ (123 : Int32) < v1 →
      (Cj d 313 [.ref 103, .int v1] σ (fun x4 σ3 =>
      (vp_in ((σ.1 103 66) - (1 : Int32)) 140000 ∧
      Q none (sL σ3 150 (((σ.1 103 66) - (1 : Int32)).toNatClampNeg) x4))))))))) :
  Wq 307 (d + 1) 313 [some (.ref 103), some (.int v1), none, none, none, none] [] σ Q := by
  exact fk_run_sound (B := B_M_does) (C := C_M_does) (n := 47) ok_M_does h
def B_M_indirect : fkB := [(0, [(.aload_n 0, 1, []), (.invokevirtual 321, 3, [246, 0, 2343, 0, 2, 12]), (.lstore_n 1, 1, []), (.aload_n 0, 1, []), (.dup, 1, []), (.getfield 296, 3, [12, 40, 1917, 0]), (.iconst 1, 1, []), (.iadd, 1, []), (.putfield 296, 3, [12, 40, 1917, 0]), (.aload_n 0, 1, []), (.invokevirtual 554, 3, [302, 0, 2567, 0, 2, 12]), (.ldc2_w 384, 3, [4294967295, 2403]), (.land, 1, []), (.lstore_n 3, 1, []), (.lload_n 3, 1, []), (.aload_n 0, 1, []), (.getfield 57, 3, [12, 16, 1893, 0]), (.aload_n 0, 1, []), (.getfield 493, 3, [12, 37, 1914, 0]), (.laload, 1, []), (.lcmp, 1, []), (.ifCond .lt 9, 3, [44])]),
  (38, [(.aload_n 0, 1, []), (.iconst 5, 1, []), (.invokevirtual 557, 3, [299, 1, 2555, 0, 0, 12]), (.return_, 1, [])]),
  (44, [(.aload_n 0, 1, []), (.getfield 145, 3, [12, 60, 1937, 0]), (.lload_n 3, 1, []), (.l2i, 1, []), (.iaload, 1, []), (.istore 5, 2, []), (.iload 5, 2, []), (.ifCond .ge 12, 3, [67])]),
  (58, [(.aload_n 0, 1, []), (.bipush 6, 2, []), (.invokevirtual 557, 3, [299, 1, 2555, 0, 0, 12]), (.goto 41, 3, [105])]),
  (67, [(.aload_n 0, 1, []), (.bipush 60, 2, []), (.aload_n 0, 1, []), (.getfield 493, 3, [12, 37, 1914, 0]), (.imul, 1, []), (.lload_n 1, 1, []), (.l2i, 1, []), (.iadd, 1, []), (.aload_n 0, 1, []), (.iload 5, 2, []), (.invokevirtual 514, 3, [294, 1, 2535, 0, 1, 12]), (.invokevirtual 597, 3, [309, 2, 2595, 0, 1, 12]), (.ifCond .ne 12, 3, [99])]),
  (90, [(.aload_n 0, 1, []), (.bipush 7, 2, []), (.invokevirtual 557, 3, [299, 1, 2555, 0, 0, 12]), (.goto 9, 3, [105])]),
  (99, [(.aload_n 0, 1, []), (.iload 5, 2, []), (.invokevirtual 542, 3, [298, 1, 2551, 0, 0, 12])]),
  (105, [(.return_, 1, [])])]
set_option maxRecDepth 100000 in
theorem ok_M_indirect : fk_okM 308 B_M_indirect = true := by decide +kernel
abbrev C_M_indirect : fkC := []
set_option maxRecDepth 100000 in
set_option maxHeartbeats 4000000 in
theorem S_M_indirect {d : Nat}  {σ : fkS} {Q : Option Value → fkS → Prop} 
  (h : (Cj d 246 [.ref 103] σ (fun x2 σ1 =>
  (Cj d 302 [.ref 103] (sI σ1 103 40 ((σ1.1 103 40) + (1 : Int32))) (fun x4 σ3 =>
  (vp_in (σ3.1 103 37) 2 ∧
  (((lg_cmp (x4 &&& (Int64.ofNat 4294967295)) (σ3.2.1 118 ((σ3.1 103 37).toNatClampNeg))) < 0 →
    (vp_in ((x4 &&& (Int64.ofNat 4294967295)).toInt32) 100 ∧
    ((0 ≤ (σ3.1 147 (((x4 &&& (Int64.ofNat 4294967295)).toInt32).toNatClampNeg)) →
      (Ci d 294 [.ref 103, .int (σ3.1 147 (((x4 &&& (Int64.ofNat 4294967295)).toInt32).toNatClampNeg))] σ3 (fun x6 σ5 =>
      (Ci d 309 [.ref 103, .int (((60 : Int32) * (σ3.1 103 37)) + x2.toInt32), .int x6] σ5 (fun x8 σ7 =>
      ((¬ x8 = 0 →
        (Cv d 298 [.ref 103, .int (σ3.1 147 (((x4 &&& (Int64.ofNat 4294967295)).toInt32).toNatClampNeg))] σ7 (fun σ9 =>
        Q none σ9))) ∧
       (x8 = 0 →
        (Cv d 299 [.ref 103, .int (7 : Int32)] σ7 (fun σ10 =>
        Q none σ10))))))))) ∧
     (¬ 0 ≤ (σ3.1 147 (((x4 &&& (Int64.ofNat 4294967295)).toInt32).toNatClampNeg)) →
      (Cv d 299 [.ref 103, .int (6 : Int32)] σ3 (fun σ11 =>
      Q none σ11)))))) ∧
   (¬ (lg_cmp (x4 &&& (Int64.ofNat 4294967295)) (σ3.2.1 118 ((σ3.1 103 37).toNatClampNeg))) < 0 →
    (Cv d 299 [.ref 103, .int (5 : Int32)] σ3 (fun σ12 =>
    Q none σ12)))))))))) :
  Cl (d + 1) 308 [.ref 103] σ Q := by
  exact Cl.run B_M_indirect C_M_indirect 11 fk_q308 ok_M_indirect rfl h
def B_M_isSame : fkB := [(0, [(.aload_n 0, 1, []), (.getfield 23, 3, [12, 5, 1882, 0]), (.iload_n 1, 1, []), (.iaload, 1, []), (.aload_n 0, 1, []), (.getfield 23, 3, [12, 5, 1882, 0]), (.iload_n 2, 1, []), (.iaload, 1, []), (.if_icmp .ne 22, 3, [34])]),
  (15, [(.aload_n 0, 1, []), (.getfield 29, 3, [12, 7, 1884, 0]), (.iload_n 1, 1, []), (.iaload, 1, []), (.aload_n 0, 1, []), (.getfield 29, 3, [12, 7, 1884, 0]), (.iload_n 2, 1, []), (.iaload, 1, []), (.if_icmp .ne 7, 3, [34])]),
  (30, [(.iconst 1, 1, []), (.goto 4, 3, [35])]),
  (34, [(.iconst 0, 1, [])]),
  (35, [(.istore_n 3, 1, []), (.iconst 0, 1, []), (.istore 4, 2, [])]),
  (39, [(.iload 4, 2, []), (.aload_n 0, 1, []), (.getfield 23, 3, [12, 5, 1882, 0]), (.iload_n 1, 1, []), (.iaload, 1, []), (.if_icmp .ge 46, 3, [93])]),
  (50, [(.iload_n 3, 1, []), (.ifCond .eq 42, 3, [93])]),
  (54, [(.aload_n 0, 1, []), (.getfield 26, 3, [12, 6, 1883, 0]), (.bipush 60, 2, []), (.iload_n 1, 1, []), (.imul, 1, []), (.iload 4, 2, []), (.iadd, 1, []), (.iaload, 1, []), (.aload_n 0, 1, []), (.getfield 26, 3, [12, 6, 1883, 0]), (.bipush 60, 2, []), (.iload_n 2, 1, []), (.imul, 1, []), (.iload 4, 2, []), (.iadd, 1, []), (.iaload, 1, []), (.if_icmp .ne 7, 3, [85])]),
  (81, [(.iconst 1, 1, []), (.goto 4, 3, [86])]),
  (85, [(.iconst 0, 1, [])]),
  (86, [(.istore_n 3, 1, []), (.iinc 4 1, 3, []), (.goto (-51), 3, [39])]),
  (93, [(.iload_n 3, 1, []), (.ireturn, 1, [])])]
set_option maxRecDepth 100000 in
theorem ok_M_isSame : fk_okM 309 B_M_isSame = true := by decide +kernel
abbrev C_M_isSame : fkC := [(39, [true, true, true, true, true])]
set_option maxRecDepth 100000 in
set_option maxHeartbeats 4000000 in
theorem S_M_isSame {d : Nat} {a0 : Int32} {a1 : Int32} {σ : fkS} {Q : Option Value → fkS → Prop} 
  (h : (vp_in a0 120 ∧
  (vp_in a1 120 ∧
  ((¬ (σ.1 107 a0.toNatClampNeg) = (σ.1 107 a1.toNatClampNeg) →
    Wq 309 d 39 [some (.ref 103), some (.int a0), some (.int a1), some (.int (0 : Int32)), some (.int (0 : Int32))] [] σ Q) ∧
   ((σ.1 107 a0.toNatClampNeg) = (σ.1 107 a1.toNatClampNeg) →
    (vp_in a0 120 ∧
    (vp_in a1 120 ∧
    ((¬ (σ.1 109 a0.toNatClampNeg) = (σ.1 109 a1.toNatClampNeg) →
      Wq 309 d 39 [some (.ref 103), some (.int a0), some (.int a1), some (.int (0 : Int32)), some (.int (0 : Int32))] [] σ Q) ∧
     ((σ.1 109 a0.toNatClampNeg) = (σ.1 109 a1.toNatClampNeg) →
      Wq 309 d 39 [some (.ref 103), some (.int a0), some (.int a1), some (.int (1 : Int32)), some (.int (0 : Int32))] [] σ Q))))))))) :
  Cl d 309 [.ref 103, .int a0, .int a1] σ Q := by
  exact Cl.run B_M_isSame C_M_isSame 15 fk_q309 ok_M_isSame rfl h
set_option maxRecDepth 100000 in
set_option maxHeartbeats 4000000 in
theorem S_M_isSame_39 {d : Nat} {v1 : Int32} {v2 : Int32} {v3 : Int32} {v4 : Int32} {σ : fkS} {Q : Option Value → fkS → Prop} 
  (h : (vp_in v1 120 ∧
  (((σ.1 107 v1.toNatClampNeg) ≤ v4 →
    fk_bz v3 (Q (some (.int v3)) σ)) ∧
   (¬ (σ.1 107 v1.toNatClampNeg) ≤ v4 →
    ((v3 = 0 →
      fk_bz v3 (Q (some (.int v3)) σ)) ∧
     (¬ v3 = 0 →
      (vp_in (((60 : Int32) * v1) + v4) 7200 ∧
      (vp_in (((60 : Int32) * v2) + v4) 7200 ∧
      ((¬ (σ.1 108 ((((60 : Int32) * v1) + v4).toNatClampNeg)) = (σ.1 108 ((((60 : Int32) * v2) + v4).toNatClampNeg)) →
        Wq 309 d 39 [some (.ref 103), some (.int v1), some (.int v2), some (.int (0 : Int32)), some (.int (v4 + (1 : Int32)))] [] σ Q) ∧
       ((σ.1 108 ((((60 : Int32) * v1) + v4).toNatClampNeg)) = (σ.1 108 ((((60 : Int32) * v2) + v4).toNatClampNeg)) →
        Wq 309 d 39 [some (.ref 103), some (.int v1), some (.int v2), some (.int (1 : Int32)), some (.int (v4 + (1 : Int32)))] [] σ Q)))))))))) :
  Wq 309 d 39 [some (.ref 103), some (.int v1), some (.int v2), some (.int v3), some (.int v4)] [] σ Q := by
  exact fk_run_sound (B := B_M_isSame) (C := C_M_isSame) (n := 15) ok_M_isSame h
def B_M_variable : fkB := [(0, [(.iload_n 1, 1, []), (.bipush 32, 2, []), (.if_icmp .ne 18, 3, [21])]),
  (6, [(.aload_n 0, 1, []), (.aload_n 0, 1, []), (.getfield 159, 3, [12, 65, 1942, 0]), (.iload_n 2, 1, []), (.iload_n 3, 1, []), (.iadd, 1, []), (.laload, 1, []), (.invokevirtual 538, 3, [297, 1, 2547, 0, 0, 12]), (.goto 81, 3, [99])]),
  (21, [(.iload_n 1, 1, []), (.bipush 33, 2, []), (.if_icmp .ne 18, 3, [42])]),
  (27, [(.aload_n 0, 1, []), (.getfield 159, 3, [12, 65, 1942, 0]), (.iload_n 2, 1, []), (.iload_n 3, 1, []), (.iadd, 1, []), (.aload_n 0, 1, []), (.invokevirtual 554, 3, [302, 0, 2567, 0, 2, 12]), (.lastore, 1, []), (.goto 60, 3, [99])]),
  (42, [(.iload_n 1, 1, []), (.bipush 34, 2, []), (.if_icmp .ne 25, 3, [70])]),
  (48, [(.aload_n 0, 1, []), (.getfield 159, 3, [12, 65, 1942, 0]), (.iload_n 2, 1, []), (.iload_n 3, 1, []), (.iadd, 1, []), (.aload_n 0, 1, []), (.getfield 156, 3, [12, 64, 1941, 0]), (.aload_n 0, 1, []), (.getfield 517, 3, [12, 66, 1943, 0]), (.iconst 1, 1, []), (.isub, 1, []), (.laload, 1, []), (.lastore, 1, []), (.goto 32, 3, [99])]),
  (70, [(.iload_n 1, 1, []), (.bipush 35, 2, []), (.if_icmp .ne 16, 3, [89])]),
  (76, [(.aload_n 0, 1, []), (.aload_n 0, 1, []), (.getfield 142, 3, [12, 59, 1936, 0]), (.iload_n 3, 1, []), (.laload, 1, []), (.invokevirtual 538, 3, [297, 1, 2547, 0, 0, 12]), (.goto 13, 3, [99])]),
  (89, [(.aload_n 0, 1, []), (.getfield 142, 3, [12, 59, 1936, 0]), (.iload_n 3, 1, []), (.aload_n 0, 1, []), (.invokevirtual 554, 3, [302, 0, 2567, 0, 2, 12]), (.lastore, 1, [])]),
  (99, [(.return_, 1, [])])]
set_option maxRecDepth 100000 in
theorem ok_M_variable : fk_okM 310 B_M_variable = true := by decide +kernel
abbrev C_M_variable : fkC := []
set_option maxRecDepth 100000 in
set_option maxHeartbeats 4000000 in
theorem S_M_variable {d : Nat} {a0 : Int32} {a1 : Int32} {a2 : Int32} {σ : fkS} {Q : Option Value → fkS → Prop} 
  (h : ((¬ a0 = (32 : Int32) →
    ((¬ a0 = (33 : Int32) →
      ((¬ a0 = (34 : Int32) →
        ((¬ a0 = (35 : Int32) →
          (Cj d 302 [.ref 103] σ (fun x2 σ1 =>
          (vp_in a2 60 ∧
          Q none (sL σ1 146 a2.toNatClampNeg x2))))) ∧
         (a0 = (35 : Int32) →
          (vp_in a2 60 ∧
          (Cv d 297 [.ref 103, .long (σ.2.1 146 a2.toNatClampNeg)] σ (fun σ3 =>
          Q none σ3)))))) ∧
       (a0 = (34 : Int32) →
        (vp_in ((σ.1 103 66) - (1 : Int32)) 140000 ∧
        (vp_in (a1 + a2) 7150 ∧
        Q none (sL σ 151 ((a1 + a2).toNatClampNeg) (σ.2.1 150 (((σ.1 103 66) - (1 : Int32)).toNatClampNeg)))))))) ∧
     (a0 = (33 : Int32) →
      (Cj d 302 [.ref 103] σ (fun x5 σ4 =>
      (vp_in (a1 + a2) 7150 ∧
      Q none (sL σ4 151 ((a1 + a2).toNatClampNeg) x5))))))) ∧
   (a0 = (32 : Int32) →
    (vp_in (a1 + a2) 7150 ∧
    (Cv d 297 [.ref 103, .long (σ.2.1 151 ((a1 + a2).toNatClampNeg))] σ (fun σ6 =>
    Q none σ6)))))) :
  Cl (d + 1) 310 [.ref 103, .int a0, .int a1, .int a2] σ Q := by
  exact Cl.run B_M_variable C_M_variable 13 fk_q310 ok_M_variable rfl h
def B_M_memoryOn : fkB := [(0, [(.iload_n 1, 1, []), (.bipush 62, 2, []), (.if_icmp .le 36, 3, [39])]),
  (6, [(.aload_n 0, 1, []), (.dup, 1, []), (.getfield 296, 3, [12, 40, 1917, 0]), (.iconst 1, 1, []), (.iadd, 1, []), (.putfield 296, 3, [12, 40, 1917, 0]), (.iload_n 1, 1, []), (.bipush 63, 2, []), (.if_icmp .ne 15, 3, [34])]),
  (22, [(.aload_n 0, 1, []), (.aload_n 0, 1, []), (.getfield 508, 3, [12, 62, 1939, 0]), (.i2l, 1, []), (.invokevirtual 538, 3, [297, 1, 2547, 0, 0, 12]), (.goto 7, 3, [38])]),
  (34, [(.aload_n 0, 1, []), (.invokevirtual 600, 3, [312, 0, 2607, 0, 0, 12])]),
  (38, [(.return_, 1, [])]),
  (39, [(.aload_n 0, 1, []), (.invokevirtual 321, 3, [246, 0, 2343, 0, 2, 12]), (.lstore_n 2, 1, []), (.aload_n 0, 1, []), (.invokevirtual 321, 3, [246, 0, 2343, 0, 2, 12]), (.lstore 4, 2, []), (.iload_n 1, 1, []), (.bipush 54, 2, []), (.if_icmp .lt 10, 3, [63])]),
  (56, [(.aload_n 0, 1, []), (.invokevirtual 554, 3, [302, 0, 2567, 0, 2, 12]), (.goto 4, 3, [64])]),
  (63, [(.lconst 0, 1, [])]),
  (64, [(.lstore 6, 2, []), (.aload_n 0, 1, []), (.invokevirtual 554, 3, [302, 0, 2567, 0, 2, 12]), (.ldc2_w 384, 3, [4294967295, 2403]), (.land, 1, []), (.lload 4, 2, []), (.ladd, 1, []), (.lstore 8, 2, []), (.iload_n 1, 1, []), (.invokestatic 486, 3, [286, 1, 2506, 0, 1]), (.istore 10, 2, []), (.lload 8, 2, []), (.iload 10, 2, []), (.i2l, 1, []), (.ladd, 1, []), (.ldc2_w 603, 3, [65536, 2611]), (.aload_n 0, 1, []), (.getfield 508, 3, [12, 62, 1939, 0]), (.i2l, 1, []), (.lmul, 1, []), (.lcmp, 1, []), (.ifCond .le 9, 3, [110])]),
  (104, [(.aload_n 0, 1, []), (.iconst 4, 1, []), (.invokevirtual 557, 3, [299, 1, 2555, 0, 0, 12]), (.return_, 1, [])]),
  (110, [(.iload_n 1, 1, []), (.bipush 54, 2, []), (.if_icmp .lt 44, 3, [157])]),
  (116, [(.iconst 0, 1, []), (.istore 11, 2, [])]),
  (119, [(.iload 11, 2, []), (.iload 10, 2, []), (.if_icmp .ge 33, 3, [156])]),
  (126, [(.aload_n 0, 1, []), (.getfield 149, 3, [12, 61, 1938, 0]), (.lload 8, 2, []), (.l2i, 1, []), (.iload 11, 2, []), (.iadd, 1, []), (.lload 6, 2, []), (.bipush 8, 2, []), (.iload 11, 2, []), (.imul, 1, []), (.lshr, 1, []), (.l2i, 1, []), (.sipush 255, 3, []), (.iand, 1, []), (.iastore, 1, []), (.iinc 11 1, 3, []), (.goto (-34), 3, [119])]),
  (156, [(.return_, 1, [])]),
  (157, [(.lconst 0, 1, []), (.lstore 11, 2, []), (.iload 10, 2, []), (.iconst 1, 1, []), (.isub, 1, []), (.istore 13, 2, [])]),
  (166, [(.iload 13, 2, []), (.ifCond .lt 29, 3, [197])]),
  (171, [(.lload 11, 2, []), (.bipush 8, 2, []), (.lshl, 1, []), (.aload_n 0, 1, []), (.getfield 149, 3, [12, 61, 1938, 0]), (.lload 8, 2, []), (.l2i, 1, []), (.iload 13, 2, []), (.iadd, 1, []), (.iaload, 1, []), (.i2l, 1, []), (.lor, 1, []), (.lstore 11, 2, []), (.iinc 13 (-1), 3, []), (.goto (-28), 3, [166])]),
  (197, [(.iload_n 1, 1, []), (.bipush 40, 2, []), (.if_icmp .eq 33, 3, [233])]),
  (203, [(.iload_n 1, 1, []), (.bipush 44, 2, []), (.if_icmp .eq 27, 3, [233])]),
  (209, [(.iload_n 1, 1, []), (.bipush 46, 2, []), (.if_icmp .eq 21, 3, [233])]),
  (215, [(.iload_n 1, 1, []), (.bipush 48, 2, []), (.if_icmp .eq 15, 3, [233])]),
  (221, [(.iload_n 1, 1, []), (.bipush 50, 2, []), (.if_icmp .eq 9, 3, [233])]),
  (227, [(.iload_n 1, 1, []), (.bipush 52, 2, []), (.if_icmp .ne 7, 3, [237])]),
  (233, [(.iconst 1, 1, []), (.goto 4, 3, [238])]),
  (237, [(.iconst 0, 1, [])]),
  (238, [(.istore 13, 2, []), (.aload_n 0, 1, []), (.iload 13, 2, []), (.ifCond .eq 26, 3, [269])]),
  (246, [(.lload 11, 2, []), (.bipush 64, 2, []), (.bipush 8, 2, []), (.iload 10, 2, []), (.imul, 1, []), (.isub, 1, []), (.lshl, 1, []), (.bipush 64, 2, []), (.bipush 8, 2, []), (.iload 10, 2, []), (.imul, 1, []), (.isub, 1, []), (.lshr, 1, []), (.goto 5, 3, [271])]),
  (269, [(.lload 11, 2, [])]),
  (271, [(.invokevirtual 538, 3, [297, 1, 2547, 0, 0, 12]), (.return_, 1, [])])]
set_option maxRecDepth 100000 in
theorem ok_M_memoryOn : fk_okM 311 B_M_memoryOn = true := by decide +kernel
abbrev C_M_memoryOn : fkC := [(64, [true, true, false, false, true, false, false, false, false, false, false, false, false, false]), (119, [true, false, false, false, false, false, true, false, true, false, true, true, false, false]), (166, [true, true, false, false, false, false, false, false, true, false, true, true, false, true]), (238, [true, false, false, false, false, false, false, false, false, false, true, true, false, false])]
set_option maxRecDepth 100000 in
set_option maxHeartbeats 4000000 in
theorem S_M_memoryOn {d : Nat} {a0 : Int32} {σ : fkS} {Q : Option Value → fkS → Prop} 
  (h : ((a0 ≤ (62 : Int32) →
    (Cj d 246 [.ref 103] σ (fun x2 σ1 =>
    (Cj d 246 [.ref 103] σ1 (fun x4 σ3 =>
    ((a0 < (54 : Int32) →
      Wq 311 (d + 1) 64 [some (.ref 103), some (.int a0), none, none, some (.long x4), none, none, none, none, none, none, none, none, none] [.long (0 : Int64)] σ3 Q) ∧
     (¬ a0 < (54 : Int32) →
      (Cj d 302 [.ref 103] σ3 (fun x6 σ5 =>
      Wq 311 (d + 1) 64 [some (.ref 103), some (.int a0), none, none, some (.long x4), none, none, none, none, none, none, none, none, none] [.long x6] σ5 Q))))))))) ∧
   (¬ a0 ≤ (62 : Int32) →
    ((¬ a0 = (63 : Int32) →
      (Cv d 312 [.ref 103] (sI σ 103 40 ((σ.1 103 40) + (1 : Int32))) (fun σ7 =>
      Q none σ7))) ∧
     (a0 = (63 : Int32) →
      (Cv d 297 [.ref 103, .long ((σ.1 103 62).toInt64)] (sI σ 103 40 ((σ.1 103 40) + (1 : Int32))) (fun σ8 =>
      Q none σ8))))))) :
  Cl (d + 1) 311 [.ref 103, .int a0] σ Q := by
  exact Cl.run B_M_memoryOn C_M_memoryOn 33 fk_q311 ok_M_memoryOn rfl h
set_option maxRecDepth 100000 in
set_option maxHeartbeats 4000000 in
theorem S_M_memoryOn_64 {d : Nat} {v1 : Int32} {v4 : Int64} {s0 : Int64} {σ : fkS} {Q : Option Value → fkS → Prop} 
  (h : (Cj d 302 [.ref 103] σ (fun x2 σ1 =>
  (Ci d 286 [.int v1] σ1 (fun x4 σ3 =>
  (((lg_cmp (((x2 &&& (Int64.ofNat 4294967295)) + v4) + x4.toInt64) ((65536 : Int64) * ((σ3.1 103 62).toInt64))) ≤ 0 →
    ((v1 < (54 : Int32) →
      Wq 311 (d + 1) 166 [some (.ref 103), some (.int v1), none, none, none, none, none, none, some (.long ((x2 &&& (Int64.ofNat 4294967295)) + v4)), none, some (.int x4), some (.long (0 : Int64)), none, some (.int (x4 - (1 : Int32)))] [] σ3 Q) ∧
     (¬ v1 < (54 : Int32) →
      Wq 311 (d + 1) 119 [some (.ref 103), none, none, none, none, none, some (.long s0), none, some (.long ((x2 &&& (Int64.ofNat 4294967295)) + v4)), none, some (.int x4), some (.int (0 : Int32)), none, none] [] σ3 Q))) ∧
   (¬ (lg_cmp (((x2 &&& (Int64.ofNat 4294967295)) + v4) + x4.toInt64) ((65536 : Int64) * ((σ3.1 103 62).toInt64))) ≤ 0 →
    (Cv d 299 [.ref 103, .int (4 : Int32)] σ3 (fun σ5 =>
    Q none σ5))))))))) :
  Wq 311 (d + 1) 64 [some (.ref 103), some (.int v1), none, none, some (.long v4), none, none, none, none, none, none, none, none, none] [.long s0] σ Q := by
  exact fk_run_sound (B := B_M_memoryOn) (C := C_M_memoryOn) (n := 33) ok_M_memoryOn h
set_option maxRecDepth 100000 in
set_option maxHeartbeats 4000000 in
theorem S_M_memoryOn_119 {d : Nat} {v6 : Int64} {v8 : Int64} {v10 : Int32} {v11 : Int32} {σ : fkS} {Q : Option Value → fkS → Prop} 
  (h : ((v10 ≤ v11 →
    Q none σ) ∧
   (¬ v10 ≤ v11 →
    (vp_in (v8.toInt32 + v11) 131072 ∧
    Wq 311 (d + 1) 119 [some (.ref 103), none, none, none, none, none, some (.long v6), none, some (.long v8), none, some (.int v10), some (.int (v11 + (1 : Int32))), none, none] [] (sI σ 148 ((v8.toInt32 + v11).toNatClampNeg) (((fk_lshr v6 ((8 : Int32) * v11)).toInt32) &&& (255 : Int32))) Q)))) :
  Wq 311 (d + 1) 119 [some (.ref 103), none, none, none, none, none, some (.long v6), none, some (.long v8), none, some (.int v10), some (.int v11), none, none] [] σ Q := by
  exact fk_run_sound (B := B_M_memoryOn) (C := C_M_memoryOn) (n := 33) ok_M_memoryOn h
set_option maxRecDepth 100000 in
set_option maxHeartbeats 4000000 in
theorem S_M_memoryOn_166 {d : Nat} {v1 : Int32} {v8 : Int64} {v10 : Int32} {v11 : Int64} {v13 : Int32} {σ : fkS} {Q : Option Value → fkS → Prop} 
  (h : ((v13 < 0 →
    ((v1 = (40 : Int32) →
      Wq 311 (d + 1) 238 [some (.ref 103), none, none, none, none, none, none, none, none, none, some (.int v10), some (.long v11), none, none] [.int (1 : Int32)] σ Q) ∧
     (¬ v1 = (40 : Int32) →
      ((v1 = (44 : Int32) →
        Wq 311 (d + 1) 238 [some (.ref 103), none, none, none, none, none, none, none, none, none, some (.int v10), some (.long v11), none, none] [.int (1 : Int32)] σ Q) ∧
       (¬ v1 = (44 : Int32) →
        ((v1 = (46 : Int32) →
          Wq 311 (d + 1) 238 [some (.ref 103), none, none, none, none, none, none, none, none, none, some (.int v10), some (.long v11), none, none] [.int (1 : Int32)] σ Q) ∧
         (¬ v1 = (46 : Int32) →
          ((v1 = (48 : Int32) →
            Wq 311 (d + 1) 238 [some (.ref 103), none, none, none, none, none, none, none, none, none, some (.int v10), some (.long v11), none, none] [.int (1 : Int32)] σ Q) ∧
           (¬ v1 = (48 : Int32) →
            ((v1 = (50 : Int32) →
              Wq 311 (d + 1) 238 [some (.ref 103), none, none, none, none, none, none, none, none, none, some (.int v10), some (.long v11), none, none] [.int (1 : Int32)] σ Q) ∧
             (¬ v1 = (50 : Int32) →
              ((¬ v1 = (52 : Int32) →
                Wq 311 (d + 1) 238 [some (.ref 103), none, none, none, none, none, none, none, none, none, some (.int v10), some (.long v11), none, none] [.int (0 : Int32)] σ Q) ∧
               (v1 = (52 : Int32) →
                Wq 311 (d + 1) 238 [some (.ref 103), none, none, none, none, none, none, none, none, none, some (.int v10), some (.long v11), none, none] [.int (1 : Int32)] σ Q))))))))))))) ∧
   (¬ v13 < 0 →
    (vp_in (v8.toInt32 + v13) 131072 ∧
    Wq 311 (d + 1) 166 [some (.ref 103), some (.int v1), none, none, none, none, none, none, some (.long v8), none, some (.int v10), some (.long ((fk_lshl v11 (8 : Int32)) ||| ((σ.1 148 ((v8.toInt32 + v13).toNatClampNeg)).toInt64))), none, some (.int (v13 + (-1 : Int32)))] [] σ Q)))) :
  Wq 311 (d + 1) 166 [some (.ref 103), some (.int v1), none, none, none, none, none, none, some (.long v8), none, some (.int v10), some (.long v11), none, some (.int v13)] [] σ Q := by
  exact fk_run_sound (B := B_M_memoryOn) (C := C_M_memoryOn) (n := 33) ok_M_memoryOn h
set_option maxRecDepth 100000 in
set_option maxHeartbeats 4000000 in
theorem S_M_memoryOn_238 {d : Nat} {v10 : Int32} {v11 : Int64} {s0 : Int32} {σ : fkS} {Q : Option Value → fkS → Prop} 
  (h : ((s0 = 0 →
    (Cv d 297 [.ref 103, .long v11] σ (fun σ1 =>
    Q none σ1))) ∧
   (¬ s0 = 0 →
    (Cv d 297 [.ref 103, .long (fk_lshr (fk_lshl v11 ((64 : Int32) - ((8 : Int32) * v10))) ((64 : Int32) - ((8 : Int32) * v10)))] σ (fun σ2 =>
    Q none σ2))))) :
  Wq 311 (d + 1) 238 [some (.ref 103), none, none, none, none, none, none, none, none, none, some (.int v10), some (.long v11), none, none] [.int s0] σ Q := by
  exact fk_run_sound (B := B_M_memoryOn) (C := C_M_memoryOn) (n := 33) ok_M_memoryOn h
def B_M_grows : fkB := [(0, [(.aload_n 0, 1, []), (.invokevirtual 554, 3, [302, 0, 2567, 0, 2, 12]), (.ldc2_w 384, 3, [4294967295, 2403]), (.land, 1, []), (.lstore_n 1, 1, []), (.aload_n 0, 1, []), (.getfield 66, 3, [12, 19, 1896, 0]), (.aload_n 0, 1, []), (.getfield 493, 3, [12, 37, 1914, 0]), (.laload, 1, []), (.lconst 0, 1, []), (.lcmp, 1, []), (.ifCond .ge 9, 3, [29])]),
  (23, [(.ldc2_w 397, 3, [2, 2424]), (.goto 12, 3, [38])]),
  (29, [(.aload_n 0, 1, []), (.getfield 66, 3, [12, 19, 1896, 0]), (.aload_n 0, 1, []), (.getfield 493, 3, [12, 37, 1914, 0]), (.laload, 1, [])]),
  (38, [(.lstore_n 3, 1, []), (.aload_n 0, 1, []), (.getfield 508, 3, [12, 62, 1939, 0]), (.i2l, 1, []), (.lload_n 1, 1, []), (.ladd, 1, []), (.lload_n 3, 1, []), (.lcmp, 1, []), (.ifCond .le 11, 3, [59])]),
  (51, [(.aload_n 0, 1, []), (.ldc2_w 374, 3, [18446744073709551615, 2380]), (.invokevirtual 538, 3, [297, 1, 2547, 0, 0, 12]), (.return_, 1, [])]),
  (59, [(.aload_n 0, 1, []), (.aload_n 0, 1, []), (.getfield 508, 3, [12, 62, 1939, 0]), (.i2l, 1, []), (.invokevirtual 538, 3, [297, 1, 2547, 0, 0, 12]), (.aload_n 0, 1, []), (.dup, 1, []), (.getfield 508, 3, [12, 62, 1939, 0]), (.lload_n 1, 1, []), (.l2i, 1, []), (.iadd, 1, []), (.putfield 508, 3, [12, 62, 1939, 0]), (.return_, 1, [])])]
set_option maxRecDepth 100000 in
theorem ok_M_grows : fk_okM 312 B_M_grows = true := by decide +kernel
abbrev C_M_grows : fkC := [(38, [true, true, false, false, false])]
set_option maxRecDepth 100000 in
set_option maxHeartbeats 4000000 in
theorem S_M_grows {d : Nat}  {σ : fkS} {Q : Option Value → fkS → Prop} 
  (h : (Cj d 302 [.ref 103] σ (fun x2 σ1 =>
  (vp_in (σ1.1 103 37) 2 ∧
  ((0 ≤ (lg_cmp (σ1.2.1 121 ((σ1.1 103 37).toNatClampNeg)) (0 : Int64)) →
    (vp_in (σ1.1 103 37) 2 ∧
    Wq 312 (d + 1) 38 [some (.ref 103), some (.long (x2 &&& (Int64.ofNat 4294967295))), none, none, none] [.long (σ1.2.1 121 ((σ1.1 103 37).toNatClampNeg))] σ1 Q)) ∧
   (¬ 0 ≤ (lg_cmp (σ1.2.1 121 ((σ1.1 103 37).toNatClampNeg)) (0 : Int64)) →
    Wq 312 (d + 1) 38 [some (.ref 103), some (.long (x2 &&& (Int64.ofNat 4294967295))), none, none, none] [.long (2 : Int64)] σ1 Q)))))) :
  Cl (d + 1) 312 [.ref 103] σ Q := by
  exact Cl.run B_M_grows C_M_grows 9 fk_q312 ok_M_grows rfl h
set_option maxRecDepth 100000 in
set_option maxHeartbeats 4000000 in
theorem S_M_grows_38 {d : Nat} {v1 : Int64} {s0 : Int64} {σ : fkS} {Q : Option Value → fkS → Prop} 
  (h : (((lg_cmp (((σ.1 103 62).toInt64) + v1) s0) ≤ 0 →
    (Cv d 297 [.ref 103, .long ((σ.1 103 62).toInt64)] σ (fun σ1 =>
    Q none (sI σ1 103 62 ((σ1.1 103 62) + v1.toInt32))))) ∧
   (¬ (lg_cmp (((σ.1 103 62).toInt64) + v1) s0) ≤ 0 →
    (Cv d 297 [.ref 103, .long (Int64.ofNat 18446744073709551615)] σ (fun σ2 =>
    Q none σ2))))) :
  Wq 312 (d + 1) 38 [some (.ref 103), some (.long v1), none, none, none] [.long s0] σ Q := by
  exact fk_run_sound (B := B_M_grows) (C := C_M_grows) (n := 9) ok_M_grows h
def B_M_bits : fkB := [(0, [(.iload_n 1, 1, []), (.bipush 121, 2, []), (.if_icmp .ge 8, 3, [11])]),
  (6, [(.bipush 32, 2, []), (.goto 5, 3, [13])]),
  (11, [(.bipush 64, 2, [])]),
  (13, [(.istore_n 2, 1, []), (.iload_n 1, 1, []), (.bipush 121, 2, []), (.if_icmp .ge 10, 3, [27])]),
  (20, [(.iload_n 1, 1, []), (.bipush 103, 2, []), (.isub, 1, []), (.goto 7, 3, [31])]),
  (27, [(.iload_n 1, 1, []), (.bipush 121, 2, []), (.isub, 1, [])]),
  (31, [(.istore_n 3, 1, []), (.aload_n 0, 1, []), (.getfield 156, 3, [12, 64, 1941, 0]), (.aload_n 0, 1, []), (.getfield 517, 3, [12, 66, 1943, 0]), (.iconst 1, 1, []), (.isub, 1, []), (.laload, 1, []), (.lstore 4, 2, []), (.iconst 0, 1, []), (.istore 6, 2, []), (.iload_n 3, 1, []), (.iconst 2, 1, []), (.if_icmp .ne 34, 3, [84])]),
  (53, [(.iconst 0, 1, []), (.istore 7, 2, [])]),
  (56, [(.iload 7, 2, []), (.iload_n 2, 1, []), (.if_icmp .ge 22, 3, [81])]),
  (62, [(.iload 6, 2, []), (.lload 4, 2, []), (.iload 7, 2, []), (.lshr, 1, []), (.lconst 1, 1, []), (.land, 1, []), (.l2i, 1, []), (.iadd, 1, []), (.istore 6, 2, []), (.iinc 7 1, 3, []), (.goto (-22), 3, [56])]),
  (81, [(.goto 40, 3, [121])]),
  (84, [(.iload 6, 2, []), (.iload_n 2, 1, []), (.if_icmp .ge 34, 3, [121])]),
  (90, [(.lload 4, 2, []), (.iload_n 3, 1, []), (.ifCond .ne 12, 3, [105])]),
  (96, [(.iload_n 2, 1, []), (.iconst 1, 1, []), (.isub, 1, []), (.iload 6, 2, []), (.isub, 1, []), (.goto 5, 3, [107])]),
  (105, [(.iload 6, 2, [])]),
  (107, [(.lshr, 1, []), (.lconst 1, 1, []), (.land, 1, []), (.lconst 0, 1, []), (.lcmp, 1, []), (.ifCond .ne 9, 3, [121])]),
  (115, [(.iinc 6 1, 3, []), (.goto (-34), 3, [84])]),
  (121, [(.iload 6, 2, []), (.i2l, 1, []), (.lreturn, 1, [])])]
set_option maxRecDepth 100000 in
theorem ok_M_bits : fk_okM 313 B_M_bits = true := by decide +kernel
abbrev C_M_bits : fkC := [(31, [true, false, true, false, false, false, false, false]), (56, [false, false, true, false, true, false, true, true]), (84, [false, false, true, true, true, false, true, false])]
set_option maxRecDepth 100000 in
set_option maxHeartbeats 4000000 in
theorem S_M_bits {d : Nat} {a0 : Int32} {σ : fkS} {Q : Option Value → fkS → Prop} 
  (h : (((121 : Int32) ≤ a0 →
    (((121 : Int32) ≤ a0 →
      Wq 313 d 31 [some (.ref 103), none, some (.int (64 : Int32)), none, none, none, none, none] [.int (a0 - (121 : Int32))] σ Q) ∧
     (¬ (121 : Int32) ≤ a0 →
      Wq 313 d 31 [some (.ref 103), none, some (.int (64 : Int32)), none, none, none, none, none] [.int (a0 - (103 : Int32))] σ Q))) ∧
   (¬ (121 : Int32) ≤ a0 →
    (((121 : Int32) ≤ a0 →
      Wq 313 d 31 [some (.ref 103), none, some (.int (32 : Int32)), none, none, none, none, none] [.int (a0 - (121 : Int32))] σ Q) ∧
     (¬ (121 : Int32) ≤ a0 →
      Wq 313 d 31 [some (.ref 103), none, some (.int (32 : Int32)), none, none, none, none, none] [.int (a0 - (103 : Int32))] σ Q))))) :
  Cl d 313 [.ref 103, .int a0] σ Q := by
  exact Cl.run B_M_bits C_M_bits 21 fk_q313 ok_M_bits rfl h
set_option maxRecDepth 100000 in
set_option maxHeartbeats 4000000 in
theorem S_M_bits_31 {d : Nat} {v2 : Int32} {s0 : Int32} {σ : fkS} {Q : Option Value → fkS → Prop} 
  (h : (vp_in ((σ.1 103 66) - (1 : Int32)) 140000 ∧
  ((¬ s0 = (2 : Int32) →
    Wq 313 d 84 [none, none, some (.int v2), some (.int s0), some (.long (σ.2.1 150 (((σ.1 103 66) - (1 : Int32)).toNatClampNeg))), none, some (.int (0 : Int32)), none] [] σ Q) ∧
   (s0 = (2 : Int32) →
    Wq 313 d 56 [none, none, some (.int v2), none, some (.long (σ.2.1 150 (((σ.1 103 66) - (1 : Int32)).toNatClampNeg))), none, some (.int (0 : Int32)), some (.int (0 : Int32))] [] σ Q)))) :
  Wq 313 d 31 [some (.ref 103), none, some (.int v2), none, none, none, none, none] [.int s0] σ Q := by
  exact fk_run_sound (B := B_M_bits) (C := C_M_bits) (n := 21) ok_M_bits h
set_option maxRecDepth 100000 in
set_option maxHeartbeats 4000000 in
theorem S_M_bits_56 {d : Nat} {v2 : Int32} {v4 : Int64} {v6 : Int32} {v7 : Int32} {σ : fkS} {Q : Option Value → fkS → Prop} 
  (h : ((v2 ≤ v7 →
    Q (some (.long v6.toInt64)) σ) ∧
   (¬ v2 ≤ v7 →
    Wq 313 d 56 [none, none, some (.int v2), none, some (.long v4), none, some (.int (v6 + (((fk_lshr v4 v7) &&& (1 : Int64)).toInt32))), some (.int (v7 + (1 : Int32)))] [] σ Q))) :
  Wq 313 d 56 [none, none, some (.int v2), none, some (.long v4), none, some (.int v6), some (.int v7)] [] σ Q := by
  exact fk_run_sound (B := B_M_bits) (C := C_M_bits) (n := 21) ok_M_bits h
set_option maxRecDepth 100000 in
set_option maxHeartbeats 4000000 in
theorem S_M_bits_84 {d : Nat} {v2 : Int32} {v3 : Int32} {v4 : Int64} {v6 : Int32} {σ : fkS} {Q : Option Value → fkS → Prop} 
  (h : ((v2 ≤ v6 →
    Q (some (.long v6.toInt64)) σ) ∧
   (¬ v2 ≤ v6 →
    ((¬ v3 = 0 →
      ((¬ (lg_cmp ((fk_lshr v4 v6) &&& (1 : Int64)) (0 : Int64)) = 0 →
        Q (some (.long v6.toInt64)) σ) ∧
       ((lg_cmp ((fk_lshr v4 v6) &&& (1 : Int64)) (0 : Int64)) = 0 →
        Wq 313 d 84 [none, none, some (.int v2), some (.int v3), some (.long v4), none, some (.int (v6 + (1 : Int32))), none] [] σ Q))) ∧
     (v3 = 0 →
      ((¬ (lg_cmp ((fk_lshr v4 ((v2 - (1 : Int32)) - v6)) &&& (1 : Int64)) (0 : Int64)) = 0 →
        Q (some (.long v6.toInt64)) σ) ∧
       ((lg_cmp ((fk_lshr v4 ((v2 - (1 : Int32)) - v6)) &&& (1 : Int64)) (0 : Int64)) = 0 →
        Wq 313 d 84 [none, none, some (.int v2), some (.int v3), some (.long v4), none, some (.int (v6 + (1 : Int32))), none] [] σ Q))))))) :
  Wq 313 d 84 [none, none, some (.int v2), some (.int v3), some (.long v4), none, some (.int v6), none] [] σ Q := by
  exact fk_run_sound (B := B_M_bits) (C := C_M_bits) (n := 21) ok_M_bits h
def B_M_binary : fkB := [(0, [(.iload_n 1, 1, []), (.bipush 90, 2, []), (.if_icmp .gt 7, 3, [10])]),
  (6, [(.iconst 1, 1, []), (.goto 4, 3, [11])]),
  (10, [(.iconst 0, 1, [])]),
  (11, [(.istore_n 2, 1, []), (.iload_n 2, 1, []), (.ifCond .eq 17, 3, [30])]),
  (16, [(.iload_n 1, 1, []), (.bipush 80, 2, []), (.if_icmp .le 7, 3, [26])]),
  (22, [(.iconst 1, 1, []), (.goto 18, 3, [41])]),
  (26, [(.iconst 0, 1, []), (.goto 14, 3, [41])]),
  (30, [(.iload_n 1, 1, []), (.bipush 121, 2, []), (.if_icmp .lt 7, 3, [40])]),
  (36, [(.iconst 1, 1, []), (.goto 4, 3, [41])]),
  (40, [(.iconst 0, 1, [])]),
  (41, [(.istore_n 3, 1, []), (.iload_n 2, 1, []), (.ifCond .eq 19, 3, [62])]),
  (46, [(.iload_n 1, 1, []), (.iload_n 3, 1, []), (.ifCond .eq 8, 3, [56])]),
  (51, [(.bipush 81, 2, []), (.goto 5, 3, [58])]),
  (56, [(.bipush 70, 2, [])]),
  (58, [(.isub, 1, []), (.goto 16, 3, [75])]),
  (62, [(.iload_n 1, 1, []), (.iload_n 3, 1, []), (.ifCond .eq 8, 3, [72])]),
  (67, [(.bipush 124, 2, []), (.goto 5, 3, [74])]),
  (72, [(.bipush 106, 2, [])]),
  (74, [(.isub, 1, [])]),
  (75, [(.istore 4, 2, []), (.aload_n 0, 1, []), (.invokevirtual 554, 3, [302, 0, 2567, 0, 2, 12]), (.lstore 5, 2, []), (.aload_n 0, 1, []), (.invokevirtual 554, 3, [302, 0, 2567, 0, 2, 12]), (.lstore 7, 2, []), (.iload_n 2, 1, []), (.ifCond .eq 26, 3, [116])]),
  (93, [(.aload_n 0, 1, []), (.iload 4, 2, []), (.lload 7, 2, []), (.lload 5, 2, []), (.iload_n 3, 1, []), (.invokestatic 611, 3, [315, 4, 2620, 0, 1]), (.ifCond .eq 7, 3, [111])]),
  (107, [(.lconst 1, 1, []), (.goto 4, 3, [112])]),
  (111, [(.lconst 0, 1, [])]),
  (112, [(.invokevirtual 538, 3, [297, 1, 2547, 0, 0, 12]), (.return_, 1, [])]),
  (116, [(.aload_n 0, 1, []), (.iload 4, 2, []), (.lload 7, 2, []), (.lload 5, 2, []), (.iload_n 3, 1, []), (.invokevirtual 615, 3, [317, 4, 2627, 0, 2, 12]), (.lstore 9, 2, []), (.aload_n 0, 1, []), (.getfield 526, 3, [12, 69, 1946, 0]), (.ifCond .ne 20, 3, [153])]),
  (136, [(.aload_n 0, 1, []), (.iload_n 3, 1, []), (.ifCond .eq 8, 3, [146])]),
  (141, [(.lload 9, 2, []), (.goto 7, 3, [150])]),
  (146, [(.lload 9, 2, []), (.l2i, 1, []), (.i2l, 1, [])]),
  (150, [(.invokevirtual 538, 3, [297, 1, 2547, 0, 0, 12])]),
  (153, [(.return_, 1, [])])]
set_option maxRecDepth 100000 in
theorem ok_M_binary : fk_okM 314 B_M_binary = true := by decide +kernel
abbrev C_M_binary : fkC := [(11, [true, true, false, false, false, false, false, false, false, false, false]), (41, [true, true, true, false, false, false, false, false, false, false, false]), (75, [true, false, true, true, false, false, false, false, false, false, false])]
set_option maxRecDepth 100000 in
set_option maxHeartbeats 4000000 in
theorem S_M_binary {d : Nat} {a0 : Int32} {σ : fkS} {Q : Option Value → fkS → Prop} 
  (h : (((90 : Int32) < a0 →
    Wq 314 (d + 1) 11 [some (.ref 103), some (.int a0), none, none, none, none, none, none, none, none, none] [.int (0 : Int32)] σ Q) ∧
   (¬ (90 : Int32) < a0 →
    Wq 314 (d + 1) 11 [some (.ref 103), some (.int a0), none, none, none, none, none, none, none, none, none] [.int (1 : Int32)] σ Q))) :
  Cl (d + 1) 314 [.ref 103, .int a0] σ Q := by
  exact Cl.run B_M_binary C_M_binary 33 fk_q314 ok_M_binary rfl h
set_option maxRecDepth 100000 in
set_option maxHeartbeats 4000000 in
theorem S_M_binary_11 {d : Nat} {v1 : Int32} {s0 : Int32} {σ : fkS} {Q : Option Value → fkS → Prop} 
  (h : ((s0 = 0 →
    ((v1 < (121 : Int32) →
      Wq 314 (d + 1) 41 [some (.ref 103), some (.int v1), some (.int s0), none, none, none, none, none, none, none, none] [.int (0 : Int32)] σ Q) ∧
     (¬ v1 < (121 : Int32) →
      Wq 314 (d + 1) 41 [some (.ref 103), some (.int v1), some (.int s0), none, none, none, none, none, none, none, none] [.int (1 : Int32)] σ Q))) ∧
   (¬ s0 = 0 →
    ((v1 ≤ (80 : Int32) →
      Wq 314 (d + 1) 41 [some (.ref 103), some (.int v1), some (.int s0), none, none, none, none, none, none, none, none] [.int (0 : Int32)] σ Q) ∧
     (¬ v1 ≤ (80 : Int32) →
      Wq 314 (d + 1) 41 [some (.ref 103), some (.int v1), some (.int s0), none, none, none, none, none, none, none, none] [.int (1 : Int32)] σ Q))))) :
  Wq 314 (d + 1) 11 [some (.ref 103), some (.int v1), none, none, none, none, none, none, none, none, none] [.int s0] σ Q := by
  exact fk_run_sound (B := B_M_binary) (C := C_M_binary) (n := 33) ok_M_binary h
set_option maxRecDepth 100000 in
set_option maxHeartbeats 4000000 in
theorem S_M_binary_41 {d : Nat} {v1 : Int32} {v2 : Int32} {s0 : Int32} {σ : fkS} {Q : Option Value → fkS → Prop} 
  (h : ((v2 = 0 →
    ((s0 = 0 →
      Wq 314 (d + 1) 75 [some (.ref 103), none, some (.int v2), some (.int s0), none, none, none, none, none, none, none] [.int (v1 - (106 : Int32))] σ Q) ∧
     (¬ s0 = 0 →
      Wq 314 (d + 1) 75 [some (.ref 103), none, some (.int v2), some (.int s0), none, none, none, none, none, none, none] [.int (v1 - (124 : Int32))] σ Q))) ∧
   (¬ v2 = 0 →
    ((s0 = 0 →
      Wq 314 (d + 1) 75 [some (.ref 103), none, some (.int v2), some (.int s0), none, none, none, none, none, none, none] [.int (v1 - (70 : Int32))] σ Q) ∧
     (¬ s0 = 0 →
      Wq 314 (d + 1) 75 [some (.ref 103), none, some (.int v2), some (.int s0), none, none, none, none, none, none, none] [.int (v1 - (81 : Int32))] σ Q))))) :
  Wq 314 (d + 1) 41 [some (.ref 103), some (.int v1), some (.int v2), none, none, none, none, none, none, none, none] [.int s0] σ Q := by
  exact fk_run_sound (B := B_M_binary) (C := C_M_binary) (n := 33) ok_M_binary h
set_option maxRecDepth 100000 in
set_option maxHeartbeats 4000000 in
theorem S_M_binary_75 {d : Nat} {v2 : Int32} {v3 : Int32} {s0 : Int32} {σ : fkS} {Q : Option Value → fkS → Prop} 
  (h : (Cj d 302 [.ref 103] σ (fun x2 σ1 =>
  (Cj d 302 [.ref 103] σ1 (fun x4 σ3 =>
  ((v2 = 0 →
    (Cj d 317 [.ref 103, .int s0, .long x4, .long x2, .int v3] σ3 (fun x6 σ5 =>
    ((¬ (σ5.1 103 69) = 0 →
      Q none σ5) ∧
     ((σ5.1 103 69) = 0 →
      ((v3 = 0 →
        (Cv d 297 [.ref 103, .long x6.toInt32.toInt64] σ5 (fun σ7 =>
        Q none σ7))) ∧
       (¬ v3 = 0 →
        (Cv d 297 [.ref 103, .long x6] σ5 (fun σ8 =>
        Q none σ8))))))))) ∧
   (¬ v2 = 0 →
    (Ci d 315 [.int s0, .long x4, .long x2, .int v3] σ3 (fun x10 σ9 =>
    ((x10 = 0 →
      (Cv d 297 [.ref 103, .long (0 : Int64)] σ9 (fun σ11 =>
      Q none σ11))) ∧
     (¬ x10 = 0 →
      (Cv d 297 [.ref 103, .long (1 : Int64)] σ9 (fun σ12 =>
      Q none σ12))))))))))))) :
  Wq 314 (d + 1) 75 [some (.ref 103), none, some (.int v2), some (.int v3), none, none, none, none, none, none, none] [.int s0] σ Q := by
  exact fk_run_sound (B := B_M_binary) (C := C_M_binary) (n := 33) ok_M_binary h
def B_M_compared : fkB := [(0, [(.iload 5, 2, []), (.ifCond .eq 7, 3, [9])]),
  (5, [(.lload_n 1, 1, []), (.goto 8, 3, [14])]),
  (9, [(.lload_n 1, 1, []), (.ldc2_w 384, 3, [4294967295, 2403]), (.land, 1, [])]),
  (14, [(.lstore 6, 2, []), (.iload 5, 2, []), (.ifCond .eq 7, 3, [25])]),
  (21, [(.lload_n 3, 1, []), (.goto 8, 3, [30])]),
  (25, [(.lload_n 3, 1, []), (.ldc2_w 384, 3, [4294967295, 2403]), (.land, 1, [])]),
  (30, [(.lstore 8, 2, []), (.iload_n 0, 1, []), (.tableswitch 155 0 8 #[51, 63, 75, 87, 95, 107, 115, 127, 143], 51, [188, 84, 96, 108, 120, 128, 140, 148, 160, 176])]),
  (84, [(.lload_n 1, 1, []), (.lload_n 3, 1, []), (.lcmp, 1, []), (.ifCond .ne 7, 3, [94])]),
  (90, [(.iconst 1, 1, []), (.goto 4, 3, [95])]),
  (94, [(.iconst 0, 1, [])]),
  (95, [(.ireturn, 1, [])]),
  (96, [(.lload_n 1, 1, []), (.lload_n 3, 1, []), (.lcmp, 1, []), (.ifCond .eq 7, 3, [106])]),
  (102, [(.iconst 1, 1, []), (.goto 4, 3, [107])]),
  (106, [(.iconst 0, 1, [])]),
  (107, [(.ireturn, 1, [])]),
  (108, [(.lload_n 1, 1, []), (.lload_n 3, 1, []), (.lcmp, 1, []), (.ifCond .ge 7, 3, [118])]),
  (114, [(.iconst 1, 1, []), (.goto 4, 3, [119])]),
  (118, [(.iconst 0, 1, [])]),
  (119, [(.ireturn, 1, [])]),
  (120, [(.lload 6, 2, []), (.lload 8, 2, []), (.invokestatic 605, 3, [316, 2, 2623, 0, 1]), (.ireturn, 1, [])]),
  (128, [(.lload_n 1, 1, []), (.lload_n 3, 1, []), (.lcmp, 1, []), (.ifCond .le 7, 3, [138])]),
  (134, [(.iconst 1, 1, []), (.goto 4, 3, [139])]),
  (138, [(.iconst 0, 1, [])]),
  (139, [(.ireturn, 1, [])]),
  (140, [(.lload 8, 2, []), (.lload 6, 2, []), (.invokestatic 605, 3, [316, 2, 2623, 0, 1]), (.ireturn, 1, [])]),
  (148, [(.lload_n 1, 1, []), (.lload_n 3, 1, []), (.lcmp, 1, []), (.ifCond .gt 7, 3, [158])]),
  (154, [(.iconst 1, 1, []), (.goto 4, 3, [159])]),
  (158, [(.iconst 0, 1, [])]),
  (159, [(.ireturn, 1, [])]),
  (160, [(.lload 8, 2, []), (.lload 6, 2, []), (.invokestatic 605, 3, [316, 2, 2623, 0, 1]), (.ifCond .ne 7, 3, [174])]),
  (170, [(.iconst 1, 1, []), (.goto 4, 3, [175])]),
  (174, [(.iconst 0, 1, [])]),
  (175, [(.ireturn, 1, [])]),
  (176, [(.lload_n 1, 1, []), (.lload_n 3, 1, []), (.lcmp, 1, []), (.ifCond .lt 7, 3, [186])]),
  (182, [(.iconst 1, 1, []), (.goto 4, 3, [187])]),
  (186, [(.iconst 0, 1, [])]),
  (187, [(.ireturn, 1, [])]),
  (188, [(.lload 6, 2, []), (.lload 8, 2, []), (.invokestatic 605, 3, [316, 2, 2623, 0, 1]), (.ifCond .ne 7, 3, [202])]),
  (198, [(.iconst 1, 1, []), (.goto 4, 3, [203])]),
  (202, [(.iconst 0, 1, [])]),
  (203, [(.ireturn, 1, [])])]
set_option maxRecDepth 100000 in
theorem ok_M_compared : fk_okM 315 B_M_compared = true := by decide +kernel
abbrev C_M_compared : fkC := [(30, [true, true, false, true, false, false, true, false, false, false])]
set_option maxRecDepth 100000 in
set_option maxHeartbeats 4000000 in
theorem S_M_compared {d : Nat} {a0 : Int32} {a1 : Int64} {a2 : Int64} {a3 : Int32} {σ : fkS} {Q : Option Value → fkS → Prop} 
  (h : ((a3 = 0 →
    ((a3 = 0 →
      Wq 315 (d + 1) 30 [some (.int a0), some (.long a1), none, some (.long a2), none, none, some (.long (a1 &&& (Int64.ofNat 4294967295))), none, none, none] [.long (a2 &&& (Int64.ofNat 4294967295))] σ Q) ∧
     (¬ a3 = 0 →
      Wq 315 (d + 1) 30 [some (.int a0), some (.long a1), none, some (.long a2), none, none, some (.long (a1 &&& (Int64.ofNat 4294967295))), none, none, none] [.long a2] σ Q))) ∧
   (¬ a3 = 0 →
    ((a3 = 0 →
      Wq 315 (d + 1) 30 [some (.int a0), some (.long a1), none, some (.long a2), none, none, some (.long a1), none, none, none] [.long (a2 &&& (Int64.ofNat 4294967295))] σ Q) ∧
     (¬ a3 = 0 →
      Wq 315 (d + 1) 30 [some (.int a0), some (.long a1), none, some (.long a2), none, none, some (.long a1), none, none, none] [.long a2] σ Q))))) :
  Cl (d + 1) 315 [.int a0, .long a1, .long a2, .int a3] σ Q := by
  exact Cl.run B_M_compared C_M_compared 44 fk_q315 ok_M_compared rfl h
set_option maxRecDepth 100000 in
set_option maxHeartbeats 4000000 in
theorem S_M_compared_30 {d : Nat} {v0 : Int32} {v1 : Int64} {v3 : Int64} {v6 : Int64} {s0 : Int64} {σ : fkS} {Q : Option Value → fkS → Prop} 
  (h : (((v0.toInt < 0 ∨ 8 < v0.toInt) →
    (Ci d 316 [.long v6, .long s0] σ (fun x2 σ1 =>
    ((¬ x2 = 0 →
      Q (some (.int (0 : Int32))) σ1) ∧
     (x2 = 0 →
      Q (some (.int (1 : Int32))) σ1))))) ∧
   (v0.toInt = 0 →
    ((¬ (lg_cmp v1 v3) = 0 →
      Q (some (.int (0 : Int32))) σ) ∧
     ((lg_cmp v1 v3) = 0 →
      Q (some (.int (1 : Int32))) σ))) ∧
   (v0.toInt = 1 →
    (((lg_cmp v1 v3) = 0 →
      Q (some (.int (0 : Int32))) σ) ∧
     (¬ (lg_cmp v1 v3) = 0 →
      Q (some (.int (1 : Int32))) σ))) ∧
   (v0.toInt = 2 →
    ((0 ≤ (lg_cmp v1 v3) →
      Q (some (.int (0 : Int32))) σ) ∧
     (¬ 0 ≤ (lg_cmp v1 v3) →
      Q (some (.int (1 : Int32))) σ))) ∧
   (v0.toInt = 3 →
    (Ci d 316 [.long v6, .long s0] σ (fun x4 σ3 =>
    fk_bz x4 (Q (some (.int x4)) σ3)))) ∧
   (v0.toInt = 4 →
    (((lg_cmp v1 v3) ≤ 0 →
      Q (some (.int (0 : Int32))) σ) ∧
     (¬ (lg_cmp v1 v3) ≤ 0 →
      Q (some (.int (1 : Int32))) σ))) ∧
   (v0.toInt = 5 →
    (Ci d 316 [.long s0, .long v6] σ (fun x6 σ5 =>
    fk_bz x6 (Q (some (.int x6)) σ5)))) ∧
   (v0.toInt = 6 →
    ((0 < (lg_cmp v1 v3) →
      Q (some (.int (0 : Int32))) σ) ∧
     (¬ 0 < (lg_cmp v1 v3) →
      Q (some (.int (1 : Int32))) σ))) ∧
   (v0.toInt = 7 →
    (Ci d 316 [.long s0, .long v6] σ (fun x8 σ7 =>
    ((¬ x8 = 0 →
      Q (some (.int (0 : Int32))) σ7) ∧
     (x8 = 0 →
      Q (some (.int (1 : Int32))) σ7))))) ∧
   (v0.toInt = 8 →
    (((lg_cmp v1 v3) < 0 →
      Q (some (.int (0 : Int32))) σ) ∧
     (¬ (lg_cmp v1 v3) < 0 →
      Q (some (.int (1 : Int32))) σ))) ∧ True)) :
  Wq 315 (d + 1) 30 [some (.int v0), some (.long v1), none, some (.long v3), none, none, some (.long v6), none, none, none] [.long s0] σ Q := by
  exact fk_run_sound (B := B_M_compared) (C := C_M_compared) (n := 44) ok_M_compared h
def B_M_isBelow : fkB := [(0, [(.lload_n 0, 1, []), (.ldc2_w 609, 3, [9223372036854775808, 2626]), (.ladd, 1, []), (.lload_n 2, 1, []), (.ldc2_w 609, 3, [9223372036854775808, 2626]), (.ladd, 1, []), (.lcmp, 1, []), (.ifCond .ge 7, 3, [18])]),
  (14, [(.iconst 1, 1, []), (.goto 4, 3, [19])]),
  (18, [(.iconst 0, 1, [])]),
  (19, [(.ireturn, 1, [])])]
set_option maxRecDepth 100000 in
theorem ok_M_isBelow : fk_okM 316 B_M_isBelow = true := by decide +kernel
abbrev C_M_isBelow : fkC := []
set_option maxRecDepth 100000 in
set_option maxHeartbeats 4000000 in
theorem S_M_isBelow {d : Nat} {a0 : Int64} {a1 : Int64} {σ : fkS} {Q : Option Value → fkS → Prop} 
  (h : ((0 ≤ (lg_cmp (a0 + (Int64.ofNat 9223372036854775808)) (a1 + (Int64.ofNat 9223372036854775808))) →
    Q (some (.int (0 : Int32))) σ) ∧
   (¬ 0 ≤ (lg_cmp (a0 + (Int64.ofNat 9223372036854775808)) (a1 + (Int64.ofNat 9223372036854775808))) →
    Q (some (.int (1 : Int32))) σ))) :
  Cl d 316 [.long a0, .long a1] σ Q := by
  exact Cl.run B_M_isBelow C_M_isBelow 7 fk_q316 ok_M_isBelow rfl h
def B_M_reckoned : fkB := [(0, [(.iload 6, 2, []), (.ifCond .eq 7, 3, [9])]),
  (5, [(.lload_n 2, 1, []), (.goto 8, 3, [14])]),
  (9, [(.lload_n 2, 1, []), (.ldc2_w 384, 3, [4294967295, 2403]), (.land, 1, [])]),
  (14, [(.lstore 7, 2, []), (.iload 6, 2, []), (.ifCond .eq 8, 3, [26])]),
  (21, [(.lload 4, 2, []), (.goto 9, 3, [32])]),
  (26, [(.lload 4, 2, []), (.ldc2_w 384, 3, [4294967295, 2403]), (.land, 1, [])]),
  (32, [(.lstore 9, 2, []), (.iload 6, 2, []), (.ifCond .eq 8, 3, [44])]),
  (39, [(.bipush 64, 2, []), (.goto 5, 3, [46])]),
  (44, [(.bipush 32, 2, [])]),
  (46, [(.istore 11, 2, []), (.lload 4, 2, []), (.iload 11, 2, []), (.iconst 1, 1, []), (.isub, 1, []), (.i2l, 1, []), (.land, 1, []), (.l2i, 1, []), (.istore 12, 2, []), (.iload_n 1, 1, []), (.tableswitch 156 0 13 #[72, 77, 82, 87, 87, 87, 87, 102, 107, 112, 117, 122, 127, 133], 72, [216, 132, 137, 142, 147, 147, 147, 147, 162, 167, 172, 177, 182, 187, 193])]),
  (132, [(.lload_n 2, 1, []), (.lload 4, 2, []), (.ladd, 1, []), (.lreturn, 1, [])]),
  (137, [(.lload_n 2, 1, []), (.lload 4, 2, []), (.lsub, 1, []), (.lreturn, 1, [])]),
  (142, [(.lload_n 2, 1, []), (.lload 4, 2, []), (.lmul, 1, []), (.lreturn, 1, [])]),
  (147, [(.aload_n 0, 1, []), (.iload_n 1, 1, []), (.lload_n 2, 1, []), (.lload 4, 2, []), (.lload 7, 2, []), (.lload 9, 2, []), (.iload 6, 2, []), (.invokevirtual 619, 3, [318, 6, 2631, 0, 2, 12]), (.lreturn, 1, [])]),
  (162, [(.lload_n 2, 1, []), (.lload 4, 2, []), (.land, 1, []), (.lreturn, 1, [])]),
  (167, [(.lload_n 2, 1, []), (.lload 4, 2, []), (.lor, 1, []), (.lreturn, 1, [])]),
  (172, [(.lload_n 2, 1, []), (.lload 4, 2, []), (.lxor, 1, []), (.lreturn, 1, [])]),
  (177, [(.lload_n 2, 1, []), (.iload 12, 2, []), (.lshl, 1, []), (.lreturn, 1, [])]),
  (182, [(.lload_n 2, 1, []), (.iload 12, 2, []), (.lshr, 1, []), (.lreturn, 1, [])]),
  (187, [(.lload 7, 2, []), (.iload 12, 2, []), (.lushr, 1, []), (.lreturn, 1, [])]),
  (193, [(.iload 12, 2, []), (.ifCond .ne 7, 3, [202])]),
  (198, [(.lload_n 2, 1, []), (.goto 16, 3, [215])]),
  (202, [(.lload_n 2, 1, []), (.iload 12, 2, []), (.lshl, 1, []), (.lload 7, 2, []), (.iload 11, 2, []), (.iload 12, 2, []), (.isub, 1, []), (.lushr, 1, []), (.lor, 1, [])]),
  (215, [(.lreturn, 1, [])]),
  (216, [(.iload 12, 2, []), (.ifCond .ne 7, 3, [225])]),
  (221, [(.lload_n 2, 1, []), (.goto 16, 3, [238])]),
  (225, [(.lload 7, 2, []), (.iload 12, 2, []), (.lushr, 1, []), (.lload_n 2, 1, []), (.iload 11, 2, []), (.iload 12, 2, []), (.isub, 1, []), (.lshl, 1, []), (.lor, 1, [])]),
  (238, [(.lreturn, 1, [])])]
set_option maxRecDepth 100000 in
theorem ok_M_reckoned : fk_okM 317 B_M_reckoned = true := by decide +kernel
abbrev C_M_reckoned : fkC := [(14, [true, true, true, false, true, false, true, false, false, false, false, false, false]), (46, [true, true, true, false, true, false, true, true, false, true, false, false, false])]
set_option maxRecDepth 100000 in
set_option maxHeartbeats 4000000 in
theorem S_M_reckoned {d : Nat} {a0 : Int32} {a1 : Int64} {a2 : Int64} {a3 : Int32} {σ : fkS} {Q : Option Value → fkS → Prop} 
  (h : ((a3 = 0 →
    Wq 317 (d + 1) 14 [some (.ref 103), some (.int a0), some (.long a1), none, some (.long a2), none, some (.int a3), none, none, none, none, none, none] [.long (a1 &&& (Int64.ofNat 4294967295))] σ Q) ∧
   (¬ a3 = 0 →
    Wq 317 (d + 1) 14 [some (.ref 103), some (.int a0), some (.long a1), none, some (.long a2), none, some (.int a3), none, none, none, none, none, none] [.long a1] σ Q))) :
  Cl (d + 1) 317 [.ref 103, .int a0, .long a1, .long a2, .int a3] σ Q := by
  exact Cl.run B_M_reckoned C_M_reckoned 31 fk_q317 ok_M_reckoned rfl h
set_option maxRecDepth 100000 in
set_option maxHeartbeats 4000000 in
theorem S_M_reckoned_14 {d : Nat} {v1 : Int32} {v2 : Int64} {v4 : Int64} {v6 : Int32} {s0 : Int64} {σ : fkS} {Q : Option Value → fkS → Prop} 
  (h : ((v6 = 0 →
    ((v6 = 0 →
      Wq 317 (d + 1) 46 [some (.ref 103), some (.int v1), some (.long v2), none, some (.long v4), none, some (.int v6), some (.long s0), none, some (.long (v4 &&& (Int64.ofNat 4294967295))), none, none, none] [.int (32 : Int32)] σ Q) ∧
     (¬ v6 = 0 →
      Wq 317 (d + 1) 46 [some (.ref 103), some (.int v1), some (.long v2), none, some (.long v4), none, some (.int v6), some (.long s0), none, some (.long (v4 &&& (Int64.ofNat 4294967295))), none, none, none] [.int (64 : Int32)] σ Q))) ∧
   (¬ v6 = 0 →
    ((v6 = 0 →
      Wq 317 (d + 1) 46 [some (.ref 103), some (.int v1), some (.long v2), none, some (.long v4), none, some (.int v6), some (.long s0), none, some (.long v4), none, none, none] [.int (32 : Int32)] σ Q) ∧
     (¬ v6 = 0 →
      Wq 317 (d + 1) 46 [some (.ref 103), some (.int v1), some (.long v2), none, some (.long v4), none, some (.int v6), some (.long s0), none, some (.long v4), none, none, none] [.int (64 : Int32)] σ Q))))) :
  Wq 317 (d + 1) 14 [some (.ref 103), some (.int v1), some (.long v2), none, some (.long v4), none, some (.int v6), none, none, none, none, none, none] [.long s0] σ Q := by
  exact fk_run_sound (B := B_M_reckoned) (C := C_M_reckoned) (n := 31) ok_M_reckoned h
set_option maxRecDepth 100000 in
set_option maxHeartbeats 4000000 in
theorem S_M_reckoned_46 {d : Nat} {v1 : Int32} {v2 : Int64} {v4 : Int64} {v6 : Int32} {v7 : Int64} {v9 : Int64} {s0 : Int32} {σ : fkS} {Q : Option Value → fkS → Prop} 
  (h : (((v1.toInt < 0 ∨ 13 < v1.toInt) →
    ((¬ ((v4 &&& ((s0 - (1 : Int32)).toInt64)).toInt32) = 0 →
      Q (some (.long ((fk_lushr v7 ((v4 &&& ((s0 - (1 : Int32)).toInt64)).toInt32)) ||| (fk_lshl v2 (s0 - ((v4 &&& ((s0 - (1 : Int32)).toInt64)).toInt32)))))) σ) ∧
     (((v4 &&& ((s0 - (1 : Int32)).toInt64)).toInt32) = 0 →
      Q (some (.long v2)) σ))) ∧
   (v1.toInt = 0 →
    Q (some (.long (v2 + v4))) σ) ∧
   (v1.toInt = 1 →
    Q (some (.long (v2 - v4))) σ) ∧
   (v1.toInt = 2 →
    Q (some (.long (v2 * v4))) σ) ∧
   (v1.toInt = 3 →
    (Cj d 318 [.ref 103, .int v1, .long v2, .long v4, .long v7, .long v9, .int v6] σ (fun x2 σ1 =>
    Q (some (.long x2)) σ1))) ∧
   (v1.toInt = 4 →
    (Cj d 318 [.ref 103, .int v1, .long v2, .long v4, .long v7, .long v9, .int v6] σ (fun x4 σ3 =>
    Q (some (.long x4)) σ3))) ∧
   (v1.toInt = 5 →
    (Cj d 318 [.ref 103, .int v1, .long v2, .long v4, .long v7, .long v9, .int v6] σ (fun x6 σ5 =>
    Q (some (.long x6)) σ5))) ∧
   (v1.toInt = 6 →
    (Cj d 318 [.ref 103, .int v1, .long v2, .long v4, .long v7, .long v9, .int v6] σ (fun x8 σ7 =>
    Q (some (.long x8)) σ7))) ∧
   (v1.toInt = 7 →
    Q (some (.long (v2 &&& v4))) σ) ∧
   (v1.toInt = 8 →
    Q (some (.long (v2 ||| v4))) σ) ∧
   (v1.toInt = 9 →
    Q (some (.long (v2 ^^^ v4))) σ) ∧
   (v1.toInt = 10 →
    Q (some (.long (fk_lshl v2 ((v4 &&& ((s0 - (1 : Int32)).toInt64)).toInt32)))) σ) ∧
   (v1.toInt = 11 →
    Q (some (.long (fk_lshr v2 ((v4 &&& ((s0 - (1 : Int32)).toInt64)).toInt32)))) σ) ∧
   (v1.toInt = 12 →
    Q (some (.long (fk_lushr v7 ((v4 &&& ((s0 - (1 : Int32)).toInt64)).toInt32)))) σ) ∧
   (v1.toInt = 13 →
    ((¬ ((v4 &&& ((s0 - (1 : Int32)).toInt64)).toInt32) = 0 →
      Q (some (.long ((fk_lshl v2 ((v4 &&& ((s0 - (1 : Int32)).toInt64)).toInt32)) ||| (fk_lushr v7 (s0 - ((v4 &&& ((s0 - (1 : Int32)).toInt64)).toInt32)))))) σ) ∧
     (((v4 &&& ((s0 - (1 : Int32)).toInt64)).toInt32) = 0 →
      Q (some (.long v2)) σ))) ∧ True)) :
  Wq 317 (d + 1) 46 [some (.ref 103), some (.int v1), some (.long v2), none, some (.long v4), none, some (.int v6), some (.long v7), none, some (.long v9), none, none, none] [.int s0] σ Q := by
  exact fk_run_sound (B := B_M_reckoned) (C := C_M_reckoned) (n := 31) ok_M_reckoned h
def B_M_divided : fkB := [(0, [(.lload 4, 2, []), (.lconst 0, 1, []), (.lcmp, 1, []), (.ifCond .ne 10, 3, [14])]),
  (7, [(.aload_n 0, 1, []), (.iconst 2, 1, []), (.invokevirtual 557, 3, [299, 1, 2555, 0, 0, 12]), (.lconst 0, 1, []), (.lreturn, 1, [])]),
  (14, [(.iload_n 1, 1, []), (.iconst 3, 1, []), (.if_icmp .ne 38, 3, [54])]),
  (19, [(.lload 4, 2, []), (.ldc2_w 374, 3, [18446744073709551615, 2380]), (.lcmp, 1, []), (.ifCond .ne 29, 3, [54])]),
  (28, [(.lload_n 2, 1, []), (.iload 10, 2, []), (.ifCond .eq 9, 3, [40])]),
  (34, [(.ldc2_w 609, 3, [9223372036854775808, 2626]), (.goto 6, 3, [43])]),
  (40, [(.ldc2_w 623, 3, [18446744071562067968, 2635])]),
  (43, [(.lcmp, 1, []), (.ifCond .ne 10, 3, [54])]),
  (47, [(.aload_n 0, 1, []), (.iconst 3, 1, []), (.invokevirtual 557, 3, [299, 1, 2555, 0, 0, 12]), (.lconst 0, 1, []), (.lreturn, 1, [])]),
  (54, [(.iload_n 1, 1, []), (.iconst 3, 1, []), (.if_icmp .ne 8, 3, [64])]),
  (59, [(.lload_n 2, 1, []), (.lload 4, 2, []), (.ldiv, 1, []), (.lreturn, 1, [])]),
  (64, [(.iload_n 1, 1, []), (.iconst 5, 1, []), (.if_icmp .ne 21, 3, [87])]),
  (69, [(.lload 4, 2, []), (.ldc2_w 374, 3, [18446744073709551615, 2380]), (.lcmp, 1, []), (.ifCond .ne 7, 3, [82])]),
  (78, [(.lconst 0, 1, []), (.goto 7, 3, [86])]),
  (82, [(.lload_n 2, 1, []), (.lload 4, 2, []), (.lrem, 1, [])]),
  (86, [(.lreturn, 1, [])]),
  (87, [(.lload 6, 2, []), (.lload 8, 2, []), (.iload_n 1, 1, []), (.bipush 6, 2, []), (.if_icmp .ne 7, 3, [101])]),
  (97, [(.iconst 1, 1, []), (.goto 4, 3, [102])]),
  (101, [(.iconst 0, 1, [])]),
  (102, [(.invokestatic 625, 3, [319, 3, 2636, 0, 2]), (.lreturn, 1, [])])]
set_option maxRecDepth 100000 in
theorem ok_M_divided : fk_okM 318 B_M_divided = true := by decide +kernel
abbrev C_M_divided : fkC := [(54, [false, true, true, false, true, false, true, false, true, false, false])]
set_option maxRecDepth 100000 in
set_option maxHeartbeats 4000000 in
theorem S_M_divided {d : Nat} {a0 : Int32} {a1 : Int64} {a2 : Int64} {a3 : Int64} {a4 : Int64} {a5 : Int32} {σ : fkS} {Q : Option Value → fkS → Prop} 
  (h : ((¬ (lg_cmp a2 (0 : Int64)) = 0 →
    ((¬ a0 = (3 : Int32) →
      Wq 318 (d + 1) 54 [none, some (.int a0), some (.long a1), none, some (.long a2), none, some (.long a3), none, some (.long a4), none, none] [] σ Q) ∧
     (a0 = (3 : Int32) →
      ((¬ (lg_cmp a2 (Int64.ofNat 18446744073709551615)) = 0 →
        Wq 318 (d + 1) 54 [none, some (.int a0), some (.long a1), none, some (.long a2), none, some (.long a3), none, some (.long a4), none, none] [] σ Q) ∧
       ((lg_cmp a2 (Int64.ofNat 18446744073709551615)) = 0 →
        ((a5 = 0 →
          ((¬ (lg_cmp a1 (Int64.ofNat 18446744071562067968)) = 0 →
            Wq 318 (d + 1) 54 [none, some (.int a0), some (.long a1), none, some (.long a2), none, some (.long a3), none, some (.long a4), none, none] [] σ Q) ∧
           ((lg_cmp a1 (Int64.ofNat 18446744071562067968)) = 0 →
            (Cv d 299 [.ref 103, .int (3 : Int32)] σ (fun σ1 =>
            Q (some (.long (0 : Int64))) σ1))))) ∧
         (¬ a5 = 0 →
          ((¬ (lg_cmp a1 (Int64.ofNat 9223372036854775808)) = 0 →
            Wq 318 (d + 1) 54 [none, some (.int a0), some (.long a1), none, some (.long a2), none, some (.long a3), none, some (.long a4), none, none] [] σ Q) ∧
           ((lg_cmp a1 (Int64.ofNat 9223372036854775808)) = 0 →
            (Cv d 299 [.ref 103, .int (3 : Int32)] σ (fun σ2 =>
            Q (some (.long (0 : Int64))) σ2))))))))))) ∧
   ((lg_cmp a2 (0 : Int64)) = 0 →
    (Cv d 299 [.ref 103, .int (2 : Int32)] σ (fun σ3 =>
    Q (some (.long (0 : Int64))) σ3))))) :
  Cl (d + 1) 318 [.ref 103, .int a0, .long a1, .long a2, .long a3, .long a4, .int a5] σ Q := by
  exact Cl.run B_M_divided C_M_divided 23 fk_q318 ok_M_divided rfl h
set_option maxRecDepth 100000 in
set_option maxHeartbeats 4000000 in
theorem S_M_divided_54 {d : Nat} {v1 : Int32} {v2 : Int64} {v4 : Int64} {v6 : Int64} {v8 : Int64} {σ : fkS} {Q : Option Value → fkS → Prop} 
  (h : ((¬ v1 = (3 : Int32) →
    ((¬ v1 = (5 : Int32) →
      ((¬ v1 = (6 : Int32) →
        (Cj d 319 [.long v6, .long v8, .int (0 : Int32)] σ (fun x2 σ1 =>
        Q (some (.long x2)) σ1))) ∧
       (v1 = (6 : Int32) →
        (Cj d 319 [.long v6, .long v8, .int (1 : Int32)] σ (fun x4 σ3 =>
        Q (some (.long x4)) σ3))))) ∧
     (v1 = (5 : Int32) →
      ((¬ (lg_cmp v4 (Int64.ofNat 18446744073709551615)) = 0 →
        (¬ v4 = 0 ∧
        Q (some (.long (v2 - v2 / v4 * v4))) σ)) ∧
       ((lg_cmp v4 (Int64.ofNat 18446744073709551615)) = 0 →
        Q (some (.long (0 : Int64))) σ))))) ∧
   (v1 = (3 : Int32) →
    (¬ v4 = 0 ∧
    Q (some (.long (v2 / v4))) σ)))) :
  Wq 318 (d + 1) 54 [none, some (.int v1), some (.long v2), none, some (.long v4), none, some (.long v6), none, some (.long v8), none, none] [] σ Q := by
  exact fk_run_sound (B := B_M_divided) (C := C_M_divided) (n := 23) ok_M_divided h
def B_M_unsigned : fkB := [(0, [(.lconst 0, 1, []), (.lstore 5, 2, []), (.lconst 0, 1, []), (.lstore 7, 2, []), (.bipush 63, 2, []), (.istore 9, 2, [])]),
  (10, [(.iload 9, 2, []), (.ifCond .lt 72, 3, [84])]),
  (15, [(.lload 7, 2, []), (.lconst 0, 1, []), (.lcmp, 1, []), (.ifCond .ge 7, 3, [26])]),
  (22, [(.iconst 1, 1, []), (.goto 4, 3, [27])]),
  (26, [(.iconst 0, 1, [])]),
  (27, [(.istore 10, 2, []), (.lload 7, 2, []), (.iconst 1, 1, []), (.lshl, 1, []), (.lload_n 0, 1, []), (.iload 9, 2, []), (.lshr, 1, []), (.lconst 1, 1, []), (.land, 1, []), (.lor, 1, []), (.lstore 7, 2, []), (.iload 10, 2, []), (.ifCond .ne 19, 3, [63])]),
  (47, [(.lload_n 2, 1, []), (.lload 7, 2, []), (.invokestatic 605, 3, [316, 2, 2623, 0, 1]), (.ifCond .ne 10, 3, [63])]),
  (56, [(.lload 7, 2, []), (.lload_n 2, 1, []), (.lcmp, 1, []), (.ifCond .ne 18, 3, [78])]),
  (63, [(.lload 7, 2, []), (.lload_n 2, 1, []), (.lsub, 1, []), (.lstore 7, 2, []), (.lload 5, 2, []), (.lconst 1, 1, []), (.iload 9, 2, []), (.lshl, 1, []), (.lor, 1, []), (.lstore 5, 2, [])]),
  (78, [(.iinc 9 (-1), 3, []), (.goto (-71), 3, [10])]),
  (84, [(.iload 4, 2, []), (.ifCond .eq 8, 3, [94])]),
  (89, [(.lload 7, 2, []), (.goto 5, 3, [96])]),
  (94, [(.lload 5, 2, [])]),
  (96, [(.lreturn, 1, [])])]
set_option maxRecDepth 100000 in
theorem ok_M_unsigned : fk_okM 319 B_M_unsigned = true := by decide +kernel
abbrev C_M_unsigned : fkC := [(10, [true, false, true, false, true, true, false, true, false, true, false]), (27, [true, false, true, false, true, true, false, true, false, true, false])]
set_option maxRecDepth 100000 in
set_option maxHeartbeats 4000000 in
theorem S_M_unsigned {d : Nat} {a0 : Int64} {a1 : Int64} {a2 : Int32} {σ : fkS} {Q : Option Value → fkS → Prop} 
  (h : Wq 319 (d + 1) 10 [some (.long a0), none, some (.long a1), none, some (.int a2), some (.long (0 : Int64)), none, some (.long (0 : Int64)), none, some (.int (63 : Int32)), none] [] σ Q) :
  Cl (d + 1) 319 [.long a0, .long a1, .int a2] σ Q := by
  exact Cl.run B_M_unsigned C_M_unsigned 17 fk_q319 ok_M_unsigned rfl h
set_option maxRecDepth 100000 in
set_option maxHeartbeats 4000000 in
theorem S_M_unsigned_10 {d : Nat} {v0 : Int64} {v2 : Int64} {v4 : Int32} {v5 : Int64} {v7 : Int64} {v9 : Int32} {σ : fkS} {Q : Option Value → fkS → Prop} 
  (h : ((v9 < 0 →
    ((v4 = 0 →
      Q (some (.long v5)) σ) ∧
     (¬ v4 = 0 →
      Q (some (.long v7)) σ))) ∧
   (¬ v9 < 0 →
    ((0 ≤ (lg_cmp v7 (0 : Int64)) →
      Wq 319 (d + 1) 27 [some (.long v0), none, some (.long v2), none, some (.int v4), some (.long v5), none, some (.long v7), none, some (.int v9), none] [.int (0 : Int32)] σ Q) ∧
     (¬ 0 ≤ (lg_cmp v7 (0 : Int64)) →
      Wq 319 (d + 1) 27 [some (.long v0), none, some (.long v2), none, some (.int v4), some (.long v5), none, some (.long v7), none, some (.int v9), none] [.int (1 : Int32)] σ Q))))) :
  Wq 319 (d + 1) 10 [some (.long v0), none, some (.long v2), none, some (.int v4), some (.long v5), none, some (.long v7), none, some (.int v9), none] [] σ Q := by
  exact fk_run_sound (B := B_M_unsigned) (C := C_M_unsigned) (n := 17) ok_M_unsigned h
set_option maxRecDepth 100000 in
set_option maxHeartbeats 4000000 in
theorem S_M_unsigned_27 {d : Nat} {v0 : Int64} {v2 : Int64} {v4 : Int32} {v5 : Int64} {v7 : Int64} {v9 : Int32} {s0 : Int32} {σ : fkS} {Q : Option Value → fkS → Prop} 
  (h : ((¬ s0 = 0 →
    Wq 319 (d + 1) 10 [some (.long v0), none, some (.long v2), none, some (.int v4), some (.long (v5 ||| (fk_lshl (1 : Int64) v9))), none, some (.long (((fk_lshl v7 (1 : Int32)) ||| ((fk_lshr v0 v9) &&& (1 : Int64))) - v2)), none, some (.int (v9 + (-1 : Int32))), none] [] σ Q) ∧
   (s0 = 0 →
    (Ci d 316 [.long v2, .long ((fk_lshl v7 (1 : Int32)) ||| ((fk_lshr v0 v9) &&& (1 : Int64)))] σ (fun x2 σ1 =>
    ((¬ x2 = 0 →
      Wq 319 (d + 1) 10 [some (.long v0), none, some (.long v2), none, some (.int v4), some (.long (v5 ||| (fk_lshl (1 : Int64) v9))), none, some (.long (((fk_lshl v7 (1 : Int32)) ||| ((fk_lshr v0 v9) &&& (1 : Int64))) - v2)), none, some (.int (v9 + (-1 : Int32))), none] [] σ1 Q) ∧
     (x2 = 0 →
      ((¬ (lg_cmp ((fk_lshl v7 (1 : Int32)) ||| ((fk_lshr v0 v9) &&& (1 : Int64))) v2) = 0 →
        Wq 319 (d + 1) 10 [some (.long v0), none, some (.long v2), none, some (.int v4), some (.long v5), none, some (.long ((fk_lshl v7 (1 : Int32)) ||| ((fk_lshr v0 v9) &&& (1 : Int64)))), none, some (.int (v9 + (-1 : Int32))), none] [] σ1 Q) ∧
       ((lg_cmp ((fk_lshl v7 (1 : Int32)) ||| ((fk_lshr v0 v9) &&& (1 : Int64))) v2) = 0 →
        Wq 319 (d + 1) 10 [some (.long v0), none, some (.long v2), none, some (.int v4), some (.long (v5 ||| (fk_lshl (1 : Int64) v9))), none, some (.long (((fk_lshl v7 (1 : Int32)) ||| ((fk_lshr v0 v9) &&& (1 : Int64))) - v2)), none, some (.int (v9 + (-1 : Int32))), none] [] σ1 Q))))))))) :
  Wq 319 (d + 1) 27 [some (.long v0), none, some (.long v2), none, some (.int v4), some (.long v5), none, some (.long v7), none, some (.int v9), none] [.int s0] σ Q := by
  exact fk_run_sound (B := B_M_unsigned) (C := C_M_unsigned) (n := 17) ok_M_unsigned h
def B_M_outcome : fkB := [(0, [(.iload_n 1, 1, []), (.ifCond .ne 10, 3, [11])]),
  (4, [(.aload_n 0, 1, []), (.getfield 545, 3, [12, 75, 1952, 0]), (.goto 30, 3, [38])]),
  (11, [(.iload_n 1, 1, []), (.iconst 1, 1, []), (.if_icmp .ne 11, 3, [24])]),
  (16, [(.aload_n 0, 1, []), (.getfield 551, 3, [12, 77, 1954, 0]), (.i2l, 1, []), (.goto 17, 3, [38])]),
  (24, [(.iload_n 1, 1, []), (.iconst 2, 1, []), (.if_icmp .ne 11, 3, [37])]),
  (29, [(.aload_n 0, 1, []), (.getfield 548, 3, [12, 76, 1953, 0]), (.i2l, 1, []), (.goto 4, 3, [38])]),
  (37, [(.lconst 0, 1, [])]),
  (38, [(.lreturn, 1, [])])]
set_option maxRecDepth 100000 in
theorem ok_M_outcome : fk_okM 320 B_M_outcome = true := by decide +kernel
abbrev C_M_outcome : fkC := []
set_option maxRecDepth 100000 in
set_option maxHeartbeats 4000000 in
theorem S_M_outcome {d : Nat} {a0 : Int32} {σ : fkS} {Q : Option Value → fkS → Prop} 
  (h : ((¬ a0 = 0 →
    ((¬ a0 = (1 : Int32) →
      ((¬ a0 = (2 : Int32) →
        Q (some (.long (0 : Int64))) σ) ∧
       (a0 = (2 : Int32) →
        Q (some (.long ((σ.1 103 76).toInt64))) σ))) ∧
     (a0 = (1 : Int32) →
      Q (some (.long ((σ.1 103 77).toInt64))) σ))) ∧
   (a0 = 0 →
    Q (some (.long (σ.2.1 103 75))) σ))) :
  Cl d 320 [.ref 103, .int a0] σ Q := by
  exact Cl.run B_M_outcome C_M_outcome 11 fk_q320 ok_M_outcome rfl h
def B_M_global : fkB := [(0, [(.aload_n 0, 1, []), (.getfield 505, 3, [12, 39, 1916, 0]), (.ifCond .eq 28, 3, [32])]),
  (7, [(.iload_n 1, 1, []), (.aload_n 0, 1, []), (.getfield 41, 3, [12, 11, 1888, 0]), (.aload_n 0, 1, []), (.getfield 493, 3, [12, 37, 1914, 0]), (.iaload, 1, []), (.invokestatic 511, 3, [293, 2, 2532, 0, 1]), (.ifCond .eq 12, 3, [32])]),
  (23, [(.aload_n 0, 1, []), (.getfield 142, 3, [12, 59, 1936, 0]), (.iload_n 1, 1, []), (.laload, 1, []), (.goto 4, 3, [33])]),
  (32, [(.lconst 0, 1, [])]),
  (33, [(.lreturn, 1, [])])]
set_option maxRecDepth 100000 in
theorem ok_M_global : fk_okM 321 B_M_global = true := by decide +kernel
abbrev C_M_global : fkC := []
set_option maxRecDepth 100000 in
set_option maxHeartbeats 4000000 in
theorem S_M_global {d : Nat} {a0 : Int32} {σ : fkS} {Q : Option Value → fkS → Prop} 
  (h : (((σ.1 103 39) = 0 →
    Q (some (.long (0 : Int64))) σ) ∧
   (¬ (σ.1 103 39) = 0 →
    (vp_in (σ.1 103 37) 2 ∧
    (Ci d 293 [.int a0, .int (σ.1 113 ((σ.1 103 37).toNatClampNeg))] σ (fun x2 σ1 =>
    ((x2 = 0 →
      Q (some (.long (0 : Int64))) σ1) ∧
     (¬ x2 = 0 →
      (vp_in a0 60 ∧
      Q (some (.long (σ1.2.1 146 a0.toNatClampNeg))) σ1))))))))) :
  Cl (d + 1) 321 [.ref 103, .int a0] σ Q := by
  exact Cl.run B_M_global C_M_global 8 fk_q321 ok_M_global rfl h
def B_M_memory : fkB := [(0, [(.aload_n 0, 1, []), (.getfield 505, 3, [12, 39, 1916, 0]), (.ifCond .eq 27, 3, [31])]),
  (7, [(.iload_n 1, 1, []), (.ldc_w 629, 3, [65536, 2651]), (.aload_n 0, 1, []), (.getfield 508, 3, [12, 62, 1939, 0]), (.imul, 1, []), (.invokestatic 511, 3, [293, 2, 2532, 0, 1]), (.ifCond .eq 12, 3, [31])]),
  (22, [(.aload_n 0, 1, []), (.getfield 149, 3, [12, 61, 1938, 0]), (.iload_n 1, 1, []), (.iaload, 1, []), (.goto 4, 3, [32])]),
  (31, [(.iconst (-1), 1, [])]),
  (32, [(.ireturn, 1, [])])]
set_option maxRecDepth 100000 in
theorem ok_M_memory : fk_okM 322 B_M_memory = true := by decide +kernel
abbrev C_M_memory : fkC := []
set_option maxRecDepth 100000 in
set_option maxHeartbeats 4000000 in
theorem S_M_memory {d : Nat} {a0 : Int32} {σ : fkS} {Q : Option Value → fkS → Prop} 
  (h : (((σ.1 103 39) = 0 →
    Q (some (.int (-1 : Int32))) σ) ∧
   (¬ (σ.1 103 39) = 0 →
    (Ci d 293 [.int a0, .int ((65536 : Int32) * (σ.1 103 62))] σ (fun x2 σ1 =>
    ((x2 = 0 →
      Q (some (.int (-1 : Int32))) σ1) ∧
     (¬ x2 = 0 →
      (vp_in a0 131072 ∧
      Q (some (.int (σ1.1 148 a0.toNatClampNeg))) σ1)))))))) :
  Cl (d + 1) 322 [.ref 103, .int a0] σ Q := by
  exact Cl.run B_M_memory C_M_memory 8 fk_q322 ok_M_memory rfl h
def B_M_table : fkB := [(0, [(.aload_n 0, 1, []), (.getfield 505, 3, [12, 39, 1916, 0]), (.ifCond .eq 44, 3, [48])]),
  (7, [(.aload_n 0, 1, []), (.getfield 35, 3, [12, 9, 1886, 0]), (.aload_n 0, 1, []), (.getfield 493, 3, [12, 37, 1914, 0]), (.iaload, 1, []), (.iconst 1, 1, []), (.if_icmp .ne 31, 3, [48])]),
  (20, [(.iload_n 1, 1, []), (.ifCond .lt 27, 3, [48])]),
  (24, [(.iload_n 1, 1, []), (.i2l, 1, []), (.aload_n 0, 1, []), (.getfield 57, 3, [12, 16, 1893, 0]), (.aload_n 0, 1, []), (.getfield 493, 3, [12, 37, 1914, 0]), (.laload, 1, []), (.lcmp, 1, []), (.ifCond .ge 12, 3, [48])]),
  (39, [(.aload_n 0, 1, []), (.getfield 145, 3, [12, 60, 1937, 0]), (.iload_n 1, 1, []), (.iaload, 1, []), (.goto 5, 3, [50])]),
  (48, [(.bipush (-2), 2, [])]),
  (50, [(.ireturn, 1, [])])]
set_option maxRecDepth 100000 in
theorem ok_M_table : fk_okM 323 B_M_table = true := by decide +kernel
abbrev C_M_table : fkC := []
set_option maxRecDepth 100000 in
set_option maxHeartbeats 4000000 in
theorem S_M_table {d : Nat} {a0 : Int32} {σ : fkS} {Q : Option Value → fkS → Prop} 
  (h : (((σ.1 103 39) = 0 →
    Q (some (.int (-2 : Int32))) σ) ∧
   (¬ (σ.1 103 39) = 0 →
    (vp_in (σ.1 103 37) 2 ∧
    ((¬ (σ.1 111 ((σ.1 103 37).toNatClampNeg)) = (1 : Int32) →
      Q (some (.int (-2 : Int32))) σ) ∧
     ((σ.1 111 ((σ.1 103 37).toNatClampNeg)) = (1 : Int32) →
      ((a0 < 0 →
        Q (some (.int (-2 : Int32))) σ) ∧
       (¬ a0 < 0 →
        (vp_in (σ.1 103 37) 2 ∧
        ((0 ≤ (lg_cmp a0.toInt64 (σ.2.1 118 ((σ.1 103 37).toNatClampNeg))) →
          Q (some (.int (-2 : Int32))) σ) ∧
         (¬ 0 ≤ (lg_cmp a0.toInt64 (σ.2.1 118 ((σ.1 103 37).toNatClampNeg))) →
          (vp_in a0 100 ∧
          Q (some (.int (σ.1 147 a0.toNatClampNeg))) σ)))))))))))) :
  Cl d 323 [.ref 103, .int a0] σ Q := by
  exact Cl.run B_M_table C_M_table 10 fk_q323 ok_M_table rfl h
