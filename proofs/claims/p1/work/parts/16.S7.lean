/-! THE WALKS of the methods as predicates, by program (wip/whole/gen/gen_S.py). Cells: wip/whole/gen/cells.py prints them. -/
-- not here: 
def B_M_judge : fkB := [(0, [(.iconst 0, 1, []), (.istore_n 1, 1, [])]),
  (2, [(.iload_n 1, 1, []), (.aload_n 0, 1, []), (.getfield 32, 3, [12, 8, 1885, 0]), (.aload_n 0, 1, []), (.getfield 293, 3, [12, 38, 1915, 0]), (.iaload, 1, []), (.if_icmp .ge 40, 3, [52])]),
  (15, [(.aload_n 0, 1, []), (.getfield 53, 3, [12, 15, 1892, 0]), (.bipush 60, 2, []), (.aload_n 0, 1, []), (.getfield 293, 3, [12, 38, 1915, 0]), (.imul, 1, []), (.iload_n 1, 1, []), (.iadd, 1, []), (.laload, 1, []), (.aload_n 0, 1, []), (.getfield 20, 3, [12, 4, 1881, 0]), (.aload_n 0, 1, []), (.getfield 293, 3, [12, 38, 1915, 0]), (.iaload, 1, []), (.i2l, 1, []), (.lcmp, 1, []), (.ifCond .lt 6, 3, [46])]),
  (43, [(.bipush (-3), 2, []), (.ireturn, 1, [])]),
  (46, [(.iinc 1 1, 3, []), (.goto (-47), 3, [2])]),
  (52, [(.aload_n 0, 1, []), (.getfield 35, 3, [12, 9, 1886, 0]), (.aload_n 0, 1, []), (.getfield 293, 3, [12, 38, 1915, 0]), (.iaload, 1, []), (.iconst 1, 1, []), (.if_icmp .gt 16, 3, [78])]),
  (65, [(.aload_n 0, 1, []), (.getfield 38, 3, [12, 10, 1887, 0]), (.aload_n 0, 1, []), (.getfield 293, 3, [12, 38, 1915, 0]), (.iaload, 1, []), (.iconst 1, 1, []), (.if_icmp .le 6, 3, [81])]),
  (78, [(.bipush (-3), 2, []), (.ireturn, 1, [])]),
  (81, [(.aload_n 0, 1, []), (.getfield 35, 3, [12, 9, 1886, 0]), (.aload_n 0, 1, []), (.getfield 293, 3, [12, 38, 1915, 0]), (.iaload, 1, []), (.iconst 1, 1, []), (.if_icmp .ne 77, 3, [168])]),
  (94, [(.aload_n 0, 1, []), (.getfield 60, 3, [12, 17, 1894, 0]), (.aload_n 0, 1, []), (.getfield 293, 3, [12, 38, 1915, 0]), (.laload, 1, []), (.lconst 0, 1, []), (.lcmp, 1, []), (.ifCond .lt 28, 3, [133])]),
  (108, [(.aload_n 0, 1, []), (.getfield 60, 3, [12, 17, 1894, 0]), (.aload_n 0, 1, []), (.getfield 293, 3, [12, 38, 1915, 0]), (.laload, 1, []), (.aload_n 0, 1, []), (.getfield 57, 3, [12, 16, 1893, 0]), (.aload_n 0, 1, []), (.getfield 293, 3, [12, 38, 1915, 0]), (.laload, 1, []), (.lcmp, 1, []), (.ifCond .ge 6, 3, [133])]),
  (130, [(.bipush (-3), 2, []), (.ireturn, 1, [])]),
  (133, [(.aload_n 0, 1, []), (.getfield 57, 3, [12, 16, 1893, 0]), (.aload_n 0, 1, []), (.getfield 293, 3, [12, 38, 1915, 0]), (.laload, 1, []), (.ldc2_w 395, 3, [100, 2423]), (.lcmp, 1, []), (.ifCond .gt 19, 3, [165])]),
  (149, [(.aload_n 0, 1, []), (.getfield 60, 3, [12, 17, 1894, 0]), (.aload_n 0, 1, []), (.getfield 293, 3, [12, 38, 1915, 0]), (.laload, 1, []), (.ldc2_w 395, 3, [100, 2423]), (.lcmp, 1, []), (.ifCond .le 6, 3, [168])]),
  (165, [(.bipush (-2), 2, []), (.ireturn, 1, [])]),
  (168, [(.aload_n 0, 1, []), (.getfield 38, 3, [12, 10, 1887, 0]), (.aload_n 0, 1, []), (.getfield 293, 3, [12, 38, 1915, 0]), (.iaload, 1, []), (.iconst 1, 1, []), (.if_icmp .ne 77, 3, [255])]),
  (181, [(.aload_n 0, 1, []), (.getfield 66, 3, [12, 19, 1896, 0]), (.aload_n 0, 1, []), (.getfield 293, 3, [12, 38, 1915, 0]), (.laload, 1, []), (.lconst 0, 1, []), (.lcmp, 1, []), (.ifCond .lt 28, 3, [220])]),
  (195, [(.aload_n 0, 1, []), (.getfield 66, 3, [12, 19, 1896, 0]), (.aload_n 0, 1, []), (.getfield 293, 3, [12, 38, 1915, 0]), (.laload, 1, []), (.aload_n 0, 1, []), (.getfield 63, 3, [12, 18, 1895, 0]), (.aload_n 0, 1, []), (.getfield 293, 3, [12, 38, 1915, 0]), (.laload, 1, []), (.lcmp, 1, []), (.ifCond .ge 6, 3, [220])]),
  (217, [(.bipush (-3), 2, []), (.ireturn, 1, [])]),
  (220, [(.aload_n 0, 1, []), (.getfield 63, 3, [12, 18, 1895, 0]), (.aload_n 0, 1, []), (.getfield 293, 3, [12, 38, 1915, 0]), (.laload, 1, []), (.ldc2_w 397, 3, [2, 2424]), (.lcmp, 1, []), (.ifCond .gt 19, 3, [252])]),
  (236, [(.aload_n 0, 1, []), (.getfield 66, 3, [12, 19, 1896, 0]), (.aload_n 0, 1, []), (.getfield 293, 3, [12, 38, 1915, 0]), (.laload, 1, []), (.ldc2_w 397, 3, [2, 2424]), (.lcmp, 1, []), (.ifCond .le 6, 3, [255])]),
  (252, [(.bipush (-2), 2, []), (.ireturn, 1, [])]),
  (255, [(.iconst 0, 1, []), (.istore_n 1, 1, [])]),
  (257, [(.iload_n 1, 1, []), (.aload_n 0, 1, []), (.getfield 41, 3, [12, 11, 1888, 0]), (.aload_n 0, 1, []), (.getfield 293, 3, [12, 38, 1915, 0]), (.iaload, 1, []), (.if_icmp .ge 60, 3, [327])]),
  (270, [(.bipush 60, 2, []), (.aload_n 0, 1, []), (.getfield 293, 3, [12, 38, 1915, 0]), (.imul, 1, []), (.iload_n 1, 1, []), (.iadd, 1, []), (.istore_n 2, 1, []), (.aload_n 0, 1, []), (.getfield 87, 3, [12, 26, 1903, 0]), (.iload_n 2, 1, []), (.iaload, 1, []), (.bipush 35, 2, []), (.if_icmp .eq 30, 3, [318])]),
  (291, [(.aload_n 0, 1, []), (.getfield 81, 3, [12, 24, 1901, 0]), (.iload_n 2, 1, []), (.iaload, 1, []), (.aload_n 0, 1, []), (.getfield 87, 3, [12, 26, 1903, 0]), (.iload_n 2, 1, []), (.iaload, 1, []), (.bipush 65, 2, []), (.if_icmp .ne 8, 3, [313])]),
  (308, [(.bipush 127, 2, []), (.goto 5, 3, [315])]),
  (313, [(.bipush 126, 2, [])]),
  (315, [(.if_icmp .eq 6, 3, [321])]),
  (318, [(.bipush (-3), 2, []), (.ireturn, 1, [])]),
  (321, [(.iinc 1 1, 3, []), (.goto (-67), 3, [257])]),
  (327, [(.aload_n 0, 1, []), (.invokevirtual 399, 3, [266, 0, 2425, 0, 1, 12]), (.ifCond .eq 10, 3, [341])]),
  (334, [(.aload_n 0, 1, []), (.invokevirtual 403, 3, [268, 0, 2433, 0, 1, 12]), (.ifCond .ne 6, 3, [344])]),
  (341, [(.bipush (-3), 2, []), (.ireturn, 1, [])]),
  (344, [(.iconst 0, 1, []), (.istore_n 1, 1, [])]),
  (346, [(.iload_n 1, 1, []), (.aload_n 0, 1, []), (.getfield 50, 3, [12, 14, 1891, 0]), (.aload_n 0, 1, []), (.getfield 293, 3, [12, 38, 1915, 0]), (.iaload, 1, []), (.if_icmp .ge 20, 3, [376])]),
  (359, [(.aload_n 0, 1, []), (.iload_n 1, 1, []), (.invokevirtual 406, 3, [269, 1, 2437, 0, 1, 12]), (.ifCond .ne 6, 3, [370])]),
  (367, [(.bipush (-3), 2, []), (.ireturn, 1, [])]),
  (370, [(.iinc 1 1, 3, []), (.goto (-27), 3, [346])]),
  (376, [(.iconst 0, 1, []), (.ireturn, 1, [])])]
set_option maxRecDepth 100000 in
theorem ok_M_judge : fk_okM 265 B_M_judge = true := by decide +kernel
abbrev C_M_judge : fkC := [(2, [true, true, false]), (133, [true, false, false]), (168, [true, false, false]), (220, [true, false, false]), (257, [true, true, false]), (346, [true, true, false])]
set_option maxRecDepth 100000 in
set_option maxHeartbeats 4000000 in
theorem S_M_judge {d : Nat}  {σ : fkS} {Q : Option Value → fkS → Prop} 
  (h : Wq 265 (d + 1) 2 [some (.ref 103), some (.int (0 : Int32)), none] [] σ Q) :
  Cl (d + 1) 265 [.ref 103] σ Q := by
  exact Cl.run B_M_judge C_M_judge 43 fk_q265 ok_M_judge rfl h
set_option maxRecDepth 100000 in
set_option maxHeartbeats 4000000 in
theorem S_M_judge_2 {d : Nat} {v1 : Int32} {σ : fkS} {Q : Option Value → fkS → Prop} 
  (h : (vp_in (σ.1 103 38) 2 ∧
  (((σ.1 110 ((σ.1 103 38).toNatClampNeg)) ≤ v1 →
    (vp_in (σ.1 103 38) 2 ∧
    (((1 : Int32) < (σ.1 111 ((σ.1 103 38).toNatClampNeg)) →
      Q (some (.int (-3 : Int32))) σ) ∧
     (¬ (1 : Int32) < (σ.1 111 ((σ.1 103 38).toNatClampNeg)) →
      (vp_in (σ.1 103 38) 2 ∧
      (((σ.1 112 ((σ.1 103 38).toNatClampNeg)) ≤ (1 : Int32) →
        (vp_in (σ.1 103 38) 2 ∧
        ((¬ (σ.1 111 ((σ.1 103 38).toNatClampNeg)) = (1 : Int32) →
          Wq 265 (d + 1) 168 [some (.ref 103), none, none] [] σ Q) ∧
         ((σ.1 111 ((σ.1 103 38).toNatClampNeg)) = (1 : Int32) →
          (vp_in (σ.1 103 38) 2 ∧
          (((lg_cmp (σ.2.1 119 ((σ.1 103 38).toNatClampNeg)) (0 : Int64)) < 0 →
            Wq 265 (d + 1) 133 [some (.ref 103), none, none] [] σ Q) ∧
           (¬ (lg_cmp (σ.2.1 119 ((σ.1 103 38).toNatClampNeg)) (0 : Int64)) < 0 →
            (vp_in (σ.1 103 38) 2 ∧
            (vp_in (σ.1 103 38) 2 ∧
            ((0 ≤ (lg_cmp (σ.2.1 119 ((σ.1 103 38).toNatClampNeg)) (σ.2.1 118 ((σ.1 103 38).toNatClampNeg))) →
              Wq 265 (d + 1) 133 [some (.ref 103), none, none] [] σ Q) ∧
             (¬ 0 ≤ (lg_cmp (σ.2.1 119 ((σ.1 103 38).toNatClampNeg)) (σ.2.1 118 ((σ.1 103 38).toNatClampNeg))) →
              Q (some (.int (-3 : Int32))) σ))))))))))) ∧
       (¬ (σ.1 112 ((σ.1 103 38).toNatClampNeg)) ≤ (1 : Int32) →
        Q (some (.int (-3 : Int32))) σ))))))) ∧
   (¬ (σ.1 110 ((σ.1 103 38).toNatClampNeg)) ≤ v1 →
    (vp_in (((60 : Int32) * (σ.1 103 38)) + v1) 120 ∧
    (vp_in (σ.1 103 38) 2 ∧
    (((lg_cmp (σ.2.1 117 ((((60 : Int32) * (σ.1 103 38)) + v1).toNatClampNeg)) ((σ.1 106 ((σ.1 103 38).toNatClampNeg)).toInt64)) < 0 →
      Wq 265 (d + 1) 2 [some (.ref 103), some (.int (v1 + (1 : Int32))), none] [] σ Q) ∧
     (¬ (lg_cmp (σ.2.1 117 ((((60 : Int32) * (σ.1 103 38)) + v1).toNatClampNeg)) ((σ.1 106 ((σ.1 103 38).toNatClampNeg)).toInt64)) < 0 →
      Q (some (.int (-3 : Int32))) σ)))))))) :
  Wq 265 (d + 1) 2 [some (.ref 103), some (.int v1), none] [] σ Q := by
  exact fk_run_sound (B := B_M_judge) (C := C_M_judge) (n := 43) ok_M_judge h
set_option maxRecDepth 100000 in
set_option maxHeartbeats 4000000 in
theorem S_M_judge_133 {d : Nat}  {σ : fkS} {Q : Option Value → fkS → Prop} 
  (h : (vp_in (σ.1 103 38) 2 ∧
  ((0 < (lg_cmp (σ.2.1 118 ((σ.1 103 38).toNatClampNeg)) (100 : Int64)) →
    Q (some (.int (-2 : Int32))) σ) ∧
   (¬ 0 < (lg_cmp (σ.2.1 118 ((σ.1 103 38).toNatClampNeg)) (100 : Int64)) →
    (vp_in (σ.1 103 38) 2 ∧
    (((lg_cmp (σ.2.1 119 ((σ.1 103 38).toNatClampNeg)) (100 : Int64)) ≤ 0 →
      Wq 265 (d + 1) 168 [some (.ref 103), none, none] [] σ Q) ∧
     (¬ (lg_cmp (σ.2.1 119 ((σ.1 103 38).toNatClampNeg)) (100 : Int64)) ≤ 0 →
      Q (some (.int (-2 : Int32))) σ))))))) :
  Wq 265 (d + 1) 133 [some (.ref 103), none, none] [] σ Q := by
  exact fk_run_sound (B := B_M_judge) (C := C_M_judge) (n := 43) ok_M_judge h
set_option maxRecDepth 100000 in
set_option maxHeartbeats 4000000 in
theorem S_M_judge_168 {d : Nat}  {σ : fkS} {Q : Option Value → fkS → Prop} 
  (h : (vp_in (σ.1 103 38) 2 ∧
  ((¬ (σ.1 112 ((σ.1 103 38).toNatClampNeg)) = (1 : Int32) →
    Wq 265 (d + 1) 257 [some (.ref 103), some (.int (0 : Int32)), none] [] σ Q) ∧
   ((σ.1 112 ((σ.1 103 38).toNatClampNeg)) = (1 : Int32) →
    (vp_in (σ.1 103 38) 2 ∧
    (((lg_cmp (σ.2.1 121 ((σ.1 103 38).toNatClampNeg)) (0 : Int64)) < 0 →
      Wq 265 (d + 1) 220 [some (.ref 103), none, none] [] σ Q) ∧
     (¬ (lg_cmp (σ.2.1 121 ((σ.1 103 38).toNatClampNeg)) (0 : Int64)) < 0 →
      (vp_in (σ.1 103 38) 2 ∧
      (vp_in (σ.1 103 38) 2 ∧
      ((0 ≤ (lg_cmp (σ.2.1 121 ((σ.1 103 38).toNatClampNeg)) (σ.2.1 120 ((σ.1 103 38).toNatClampNeg))) →
        Wq 265 (d + 1) 220 [some (.ref 103), none, none] [] σ Q) ∧
       (¬ 0 ≤ (lg_cmp (σ.2.1 121 ((σ.1 103 38).toNatClampNeg)) (σ.2.1 120 ((σ.1 103 38).toNatClampNeg))) →
        Q (some (.int (-3 : Int32))) σ))))))))))) :
  Wq 265 (d + 1) 168 [some (.ref 103), none, none] [] σ Q := by
  exact fk_run_sound (B := B_M_judge) (C := C_M_judge) (n := 43) ok_M_judge h
set_option maxRecDepth 100000 in
set_option maxHeartbeats 4000000 in
theorem S_M_judge_220 {d : Nat}  {σ : fkS} {Q : Option Value → fkS → Prop} 
  (h : (vp_in (σ.1 103 38) 2 ∧
  ((0 < (lg_cmp (σ.2.1 120 ((σ.1 103 38).toNatClampNeg)) (2 : Int64)) →
    Q (some (.int (-2 : Int32))) σ) ∧
   (¬ 0 < (lg_cmp (σ.2.1 120 ((σ.1 103 38).toNatClampNeg)) (2 : Int64)) →
    (vp_in (σ.1 103 38) 2 ∧
    (((lg_cmp (σ.2.1 121 ((σ.1 103 38).toNatClampNeg)) (2 : Int64)) ≤ 0 →
      Wq 265 (d + 1) 257 [some (.ref 103), some (.int (0 : Int32)), none] [] σ Q) ∧
     (¬ (lg_cmp (σ.2.1 121 ((σ.1 103 38).toNatClampNeg)) (2 : Int64)) ≤ 0 →
      Q (some (.int (-2 : Int32))) σ))))))) :
  Wq 265 (d + 1) 220 [some (.ref 103), none, none] [] σ Q := by
  exact fk_run_sound (B := B_M_judge) (C := C_M_judge) (n := 43) ok_M_judge h
set_option maxRecDepth 100000 in
set_option maxHeartbeats 4000000 in
theorem S_M_judge_257 {d : Nat} {v1 : Int32} {σ : fkS} {Q : Option Value → fkS → Prop} 
  (h : (vp_in (σ.1 103 38) 2 ∧
  (((σ.1 113 ((σ.1 103 38).toNatClampNeg)) ≤ v1 →
    (Ci d 266 [.ref 103] σ (fun x2 σ1 =>
    ((x2 = 0 →
      Q (some (.int (-3 : Int32))) σ1) ∧
     (¬ x2 = 0 →
      (Ci d 268 [.ref 103] σ1 (fun x4 σ3 =>
      ((¬ x4 = 0 →
        Wq 265 (d + 1) 346 [some (.ref 103), some (.int (0 : Int32)), none] [] σ3 Q) ∧
       (x4 = 0 →
        Q (some (.int (-3 : Int32))) σ3))))))))) ∧
   (¬ (σ.1 113 ((σ.1 103 38).toNatClampNeg)) ≤ v1 →
    (vp_in (((60 : Int32) * (σ.1 103 38)) + v1) 120 ∧
    (((σ.1 128 ((((60 : Int32) * (σ.1 103 38)) + v1).toNatClampNeg)) = (35 : Int32) →
      Q (some (.int (-3 : Int32))) σ) ∧
     (¬ (σ.1 128 ((((60 : Int32) * (σ.1 103 38)) + v1).toNatClampNeg)) = (35 : Int32) →
      (vp_in (((60 : Int32) * (σ.1 103 38)) + v1) 120 ∧
      (vp_in (((60 : Int32) * (σ.1 103 38)) + v1) 120 ∧
      ((¬ (σ.1 128 ((((60 : Int32) * (σ.1 103 38)) + v1).toNatClampNeg)) = (65 : Int32) →
        (((σ.1 126 ((((60 : Int32) * (σ.1 103 38)) + v1).toNatClampNeg)) = (126 : Int32) →
          Wq 265 (d + 1) 257 [some (.ref 103), some (.int (v1 + (1 : Int32))), none] [] σ Q) ∧
         (¬ (σ.1 126 ((((60 : Int32) * (σ.1 103 38)) + v1).toNatClampNeg)) = (126 : Int32) →
          Q (some (.int (-3 : Int32))) σ))) ∧
       ((σ.1 128 ((((60 : Int32) * (σ.1 103 38)) + v1).toNatClampNeg)) = (65 : Int32) →
        (((σ.1 126 ((((60 : Int32) * (σ.1 103 38)) + v1).toNatClampNeg)) = (127 : Int32) →
          Wq 265 (d + 1) 257 [some (.ref 103), some (.int (v1 + (1 : Int32))), none] [] σ Q) ∧
         (¬ (σ.1 126 ((((60 : Int32) * (σ.1 103 38)) + v1).toNatClampNeg)) = (127 : Int32) →
          Q (some (.int (-3 : Int32))) σ))))))))))))) :
  Wq 265 (d + 1) 257 [some (.ref 103), some (.int v1), none] [] σ Q := by
  exact fk_run_sound (B := B_M_judge) (C := C_M_judge) (n := 43) ok_M_judge h
set_option maxRecDepth 100000 in
set_option maxHeartbeats 4000000 in
theorem S_M_judge_346 {d : Nat} {v1 : Int32} {σ : fkS} {Q : Option Value → fkS → Prop} 
  (h : (vp_in (σ.1 103 38) 2 ∧
  (((σ.1 116 ((σ.1 103 38).toNatClampNeg)) ≤ v1 →
    Q (some (.int (0 : Int32))) σ) ∧
   (¬ (σ.1 116 ((σ.1 103 38).toNatClampNeg)) ≤ v1 →
    (Ci d 269 [.ref 103, .int v1] σ (fun x2 σ1 =>
    ((¬ x2 = 0 →
      Wq 265 (d + 1) 346 [some (.ref 103), some (.int (v1 + (1 : Int32))), none] [] σ1 Q) ∧
     (x2 = 0 →
      Q (some (.int (-3 : Int32))) σ1)))))))) :
  Wq 265 (d + 1) 346 [some (.ref 103), some (.int v1), none] [] σ Q := by
  exact fk_run_sound (B := B_M_judge) (C := C_M_judge) (n := 43) ok_M_judge h
def B_M_areExports : fkB := [(0, [(.iconst 0, 1, []), (.istore_n 1, 1, [])]),
  (2, [(.iload_n 1, 1, []), (.aload_n 0, 1, []), (.getfield 44, 3, [12, 12, 1889, 0]), (.aload_n 0, 1, []), (.getfield 293, 3, [12, 38, 1915, 0]), (.iaload, 1, []), (.if_icmp .ge 143, 3, [155])]),
  (15, [(.bipush 60, 2, []), (.aload_n 0, 1, []), (.getfield 293, 3, [12, 38, 1915, 0]), (.imul, 1, []), (.iload_n 1, 1, []), (.iadd, 1, []), (.istore_n 2, 1, []), (.aload_n 0, 1, []), (.getfield 96, 3, [12, 29, 1906, 0]), (.iload_n 2, 1, []), (.iaload, 1, []), (.ifCond .ne 15, 3, [46])]),
  (34, [(.aload_n 0, 1, []), (.getfield 32, 3, [12, 8, 1885, 0]), (.aload_n 0, 1, []), (.getfield 293, 3, [12, 38, 1915, 0]), (.iaload, 1, []), (.goto 56, 3, [99])]),
  (46, [(.aload_n 0, 1, []), (.getfield 96, 3, [12, 29, 1906, 0]), (.iload_n 2, 1, []), (.iaload, 1, []), (.iconst 1, 1, []), (.if_icmp .ne 15, 3, [68])]),
  (56, [(.aload_n 0, 1, []), (.getfield 35, 3, [12, 9, 1886, 0]), (.aload_n 0, 1, []), (.getfield 293, 3, [12, 38, 1915, 0]), (.iaload, 1, []), (.goto 34, 3, [99])]),
  (68, [(.aload_n 0, 1, []), (.getfield 96, 3, [12, 29, 1906, 0]), (.iload_n 2, 1, []), (.iaload, 1, []), (.iconst 2, 1, []), (.if_icmp .ne 15, 3, [90])]),
  (78, [(.aload_n 0, 1, []), (.getfield 38, 3, [12, 10, 1887, 0]), (.aload_n 0, 1, []), (.getfield 293, 3, [12, 38, 1915, 0]), (.iaload, 1, []), (.goto 12, 3, [99])]),
  (90, [(.aload_n 0, 1, []), (.getfield 41, 3, [12, 11, 1888, 0]), (.aload_n 0, 1, []), (.getfield 293, 3, [12, 38, 1915, 0]), (.iaload, 1, [])]),
  (99, [(.istore_n 3, 1, []), (.aload_n 0, 1, []), (.getfield 72, 3, [12, 21, 1898, 0]), (.iload_n 2, 1, []), (.laload, 1, []), (.iload_n 3, 1, []), (.i2l, 1, []), (.lcmp, 1, []), (.ifCond .lt 5, 3, [114])]),
  (112, [(.iconst 0, 1, []), (.ireturn, 1, [])]),
  (114, [(.iconst 0, 1, []), (.istore 4, 2, [])]),
  (117, [(.iload 4, 2, []), (.iload_n 1, 1, []), (.if_icmp .ge 29, 3, [149])]),
  (123, [(.aload_n 0, 1, []), (.bipush 60, 2, []), (.aload_n 0, 1, []), (.getfield 293, 3, [12, 38, 1915, 0]), (.imul, 1, []), (.iload 4, 2, []), (.iadd, 1, []), (.iload_n 2, 1, []), (.invokevirtual 409, 3, [267, 2, 2429, 0, 1, 12]), (.ifCond .eq 5, 3, [143])]),
  (141, [(.iconst 0, 1, []), (.ireturn, 1, [])]),
  (143, [(.iinc 4 1, 3, []), (.goto (-29), 3, [117])]),
  (149, [(.iinc 1 1, 3, []), (.goto (-150), 3, [2])]),
  (155, [(.iconst 1, 1, []), (.ireturn, 1, [])])]
set_option maxRecDepth 100000 in
theorem ok_M_areExports : fk_okM 266 B_M_areExports = true := by decide +kernel
abbrev C_M_areExports : fkC := [(2, [true, true, false, false, false]), (117, [true, true, true, false, true])]
set_option maxRecDepth 100000 in
set_option maxHeartbeats 4000000 in
theorem S_M_areExports {d : Nat}  {σ : fkS} {Q : Option Value → fkS → Prop} 
  (h : Wq 266 (d + 1) 2 [some (.ref 103), some (.int (0 : Int32)), none, none, none] [] σ Q) :
  Cl (d + 1) 266 [.ref 103] σ Q := by
  exact Cl.run B_M_areExports C_M_areExports 21 fk_q266 ok_M_areExports rfl h
set_option maxRecDepth 100000 in
set_option maxHeartbeats 4000000 in
theorem S_M_areExports_2 {d : Nat} {v1 : Int32} {σ : fkS} {Q : Option Value → fkS → Prop} 
  (h : (vp_in (σ.1 103 38) 2 ∧
  (((σ.1 114 ((σ.1 103 38).toNatClampNeg)) ≤ v1 →
    Q (some (.int (1 : Int32))) σ) ∧
   (¬ (σ.1 114 ((σ.1 103 38).toNatClampNeg)) ≤ v1 →
    (vp_in (((60 : Int32) * (σ.1 103 38)) + v1) 120 ∧
    ((¬ (σ.1 131 ((((60 : Int32) * (σ.1 103 38)) + v1).toNatClampNeg)) = 0 →
      (vp_in (((60 : Int32) * (σ.1 103 38)) + v1) 120 ∧
      ((¬ (σ.1 131 ((((60 : Int32) * (σ.1 103 38)) + v1).toNatClampNeg)) = (1 : Int32) →
        (vp_in (((60 : Int32) * (σ.1 103 38)) + v1) 120 ∧
        ((¬ (σ.1 131 ((((60 : Int32) * (σ.1 103 38)) + v1).toNatClampNeg)) = (2 : Int32) →
          (vp_in (σ.1 103 38) 2 ∧
          (vp_in (((60 : Int32) * (σ.1 103 38)) + v1) 120 ∧
          (((lg_cmp (σ.2.1 123 ((((60 : Int32) * (σ.1 103 38)) + v1).toNatClampNeg)) ((σ.1 113 ((σ.1 103 38).toNatClampNeg)).toInt64)) < 0 →
            Wq 266 (d + 1) 117 [some (.ref 103), some (.int v1), some (.int (((60 : Int32) * (σ.1 103 38)) + v1)), none, some (.int (0 : Int32))] [] σ Q) ∧
           (¬ (lg_cmp (σ.2.1 123 ((((60 : Int32) * (σ.1 103 38)) + v1).toNatClampNeg)) ((σ.1 113 ((σ.1 103 38).toNatClampNeg)).toInt64)) < 0 →
            Q (some (.int (0 : Int32))) σ))))) ∧
         ((σ.1 131 ((((60 : Int32) * (σ.1 103 38)) + v1).toNatClampNeg)) = (2 : Int32) →
          (vp_in (σ.1 103 38) 2 ∧
          (vp_in (((60 : Int32) * (σ.1 103 38)) + v1) 120 ∧
          (((lg_cmp (σ.2.1 123 ((((60 : Int32) * (σ.1 103 38)) + v1).toNatClampNeg)) ((σ.1 112 ((σ.1 103 38).toNatClampNeg)).toInt64)) < 0 →
            Wq 266 (d + 1) 117 [some (.ref 103), some (.int v1), some (.int (((60 : Int32) * (σ.1 103 38)) + v1)), none, some (.int (0 : Int32))] [] σ Q) ∧
           (¬ (lg_cmp (σ.2.1 123 ((((60 : Int32) * (σ.1 103 38)) + v1).toNatClampNeg)) ((σ.1 112 ((σ.1 103 38).toNatClampNeg)).toInt64)) < 0 →
            Q (some (.int (0 : Int32))) σ)))))))) ∧
       ((σ.1 131 ((((60 : Int32) * (σ.1 103 38)) + v1).toNatClampNeg)) = (1 : Int32) →
        (vp_in (σ.1 103 38) 2 ∧
        (vp_in (((60 : Int32) * (σ.1 103 38)) + v1) 120 ∧
        (((lg_cmp (σ.2.1 123 ((((60 : Int32) * (σ.1 103 38)) + v1).toNatClampNeg)) ((σ.1 111 ((σ.1 103 38).toNatClampNeg)).toInt64)) < 0 →
          Wq 266 (d + 1) 117 [some (.ref 103), some (.int v1), some (.int (((60 : Int32) * (σ.1 103 38)) + v1)), none, some (.int (0 : Int32))] [] σ Q) ∧
         (¬ (lg_cmp (σ.2.1 123 ((((60 : Int32) * (σ.1 103 38)) + v1).toNatClampNeg)) ((σ.1 111 ((σ.1 103 38).toNatClampNeg)).toInt64)) < 0 →
          Q (some (.int (0 : Int32))) σ)))))))) ∧
     ((σ.1 131 ((((60 : Int32) * (σ.1 103 38)) + v1).toNatClampNeg)) = 0 →
      (vp_in (σ.1 103 38) 2 ∧
      (vp_in (((60 : Int32) * (σ.1 103 38)) + v1) 120 ∧
      (((lg_cmp (σ.2.1 123 ((((60 : Int32) * (σ.1 103 38)) + v1).toNatClampNeg)) ((σ.1 110 ((σ.1 103 38).toNatClampNeg)).toInt64)) < 0 →
        Wq 266 (d + 1) 117 [some (.ref 103), some (.int v1), some (.int (((60 : Int32) * (σ.1 103 38)) + v1)), none, some (.int (0 : Int32))] [] σ Q) ∧
       (¬ (lg_cmp (σ.2.1 123 ((((60 : Int32) * (σ.1 103 38)) + v1).toNatClampNeg)) ((σ.1 110 ((σ.1 103 38).toNatClampNeg)).toInt64)) < 0 →
        Q (some (.int (0 : Int32))) σ))))))))))) :
  Wq 266 (d + 1) 2 [some (.ref 103), some (.int v1), none, none, none] [] σ Q := by
  exact fk_run_sound (B := B_M_areExports) (C := C_M_areExports) (n := 21) ok_M_areExports h
set_option maxRecDepth 100000 in
set_option maxHeartbeats 4000000 in
theorem S_M_areExports_117 {d : Nat} {v1 : Int32} {v2 : Int32} {v4 : Int32} {σ : fkS} {Q : Option Value → fkS → Prop} 
  (h : ((v1 ≤ v4 →
    Wq 266 (d + 1) 2 [some (.ref 103), some (.int (v1 + (1 : Int32))), none, none, none] [] σ Q) ∧
   (¬ v1 ≤ v4 →
    (Ci d 267 [.ref 103, .int (((60 : Int32) * (σ.1 103 38)) + v4), .int v2] σ (fun x2 σ1 =>
    ((x2 = 0 →
      Wq 266 (d + 1) 117 [some (.ref 103), some (.int v1), some (.int v2), none, some (.int (v4 + (1 : Int32)))] [] σ1 Q) ∧
     (¬ x2 = 0 →
      Q (some (.int (0 : Int32))) σ1))))))) :
  Wq 266 (d + 1) 117 [some (.ref 103), some (.int v1), some (.int v2), none, some (.int v4)] [] σ Q := by
  exact fk_run_sound (B := B_M_areExports) (C := C_M_areExports) (n := 21) ok_M_areExports h
def B_M_isAlike : fkB := [(0, [(.aload_n 0, 1, []), (.getfield 93, 3, [12, 28, 1905, 0]), (.iload_n 1, 1, []), (.iaload, 1, []), (.aload_n 0, 1, []), (.getfield 93, 3, [12, 28, 1905, 0]), (.iload_n 2, 1, []), (.iaload, 1, []), (.if_icmp .ne 7, 3, [19])]),
  (15, [(.iconst 1, 1, []), (.goto 4, 3, [20])]),
  (19, [(.iconst 0, 1, [])]),
  (20, [(.istore_n 3, 1, []), (.iconst 0, 1, []), (.istore 4, 2, [])]),
  (24, [(.iload 4, 2, []), (.aload_n 0, 1, []), (.getfield 93, 3, [12, 28, 1905, 0]), (.iload_n 1, 1, []), (.iaload, 1, []), (.if_icmp .ge 68, 3, [100])]),
  (35, [(.iload_n 3, 1, []), (.ifCond .eq 64, 3, [100])]),
  (39, [(.aload_n 0, 1, []), (.getfield 17, 3, [12, 3, 1880, 0]), (.sipush 4000, 3, []), (.aload_n 0, 1, []), (.getfield 293, 3, [12, 38, 1915, 0]), (.imul, 1, []), (.aload_n 0, 1, []), (.getfield 90, 3, [12, 27, 1904, 0]), (.iload_n 1, 1, []), (.iaload, 1, []), (.iadd, 1, []), (.iload 4, 2, []), (.iadd, 1, []), (.iaload, 1, []), (.aload_n 0, 1, []), (.getfield 17, 3, [12, 3, 1880, 0]), (.sipush 4000, 3, []), (.aload_n 0, 1, []), (.getfield 293, 3, [12, 38, 1915, 0]), (.imul, 1, []), (.aload_n 0, 1, []), (.getfield 90, 3, [12, 27, 1904, 0]), (.iload_n 2, 1, []), (.iaload, 1, []), (.iadd, 1, []), (.iload 4, 2, []), (.iadd, 1, []), (.iaload, 1, []), (.if_icmp .ne 7, 3, [92])]),
  (88, [(.iconst 1, 1, []), (.goto 4, 3, [93])]),
  (92, [(.iconst 0, 1, [])]),
  (93, [(.istore_n 3, 1, []), (.iinc 4 1, 3, []), (.goto (-73), 3, [24])]),
  (100, [(.iload_n 3, 1, []), (.ireturn, 1, [])])]
set_option maxRecDepth 100000 in
theorem ok_M_isAlike : fk_okM 267 B_M_isAlike = true := by decide +kernel
abbrev C_M_isAlike : fkC := [(24, [true, true, true, true, true])]
set_option maxRecDepth 100000 in
set_option maxHeartbeats 4000000 in
theorem S_M_isAlike {d : Nat} {a0 : Int32} {a1 : Int32} {σ : fkS} {Q : Option Value → fkS → Prop} 
  (h : (vp_in a0 120 ∧
  (vp_in a1 120 ∧
  ((¬ (σ.1 130 a0.toNatClampNeg) = (σ.1 130 a1.toNatClampNeg) →
    Wq 267 d 24 [some (.ref 103), some (.int a0), some (.int a1), some (.int (0 : Int32)), some (.int (0 : Int32))] [] σ Q) ∧
   ((σ.1 130 a0.toNatClampNeg) = (σ.1 130 a1.toNatClampNeg) →
    Wq 267 d 24 [some (.ref 103), some (.int a0), some (.int a1), some (.int (1 : Int32)), some (.int (0 : Int32))] [] σ Q))))) :
  Cl d 267 [.ref 103, .int a0, .int a1] σ Q := by
  exact Cl.run B_M_isAlike C_M_isAlike 14 fk_q267 ok_M_isAlike rfl h
set_option maxRecDepth 100000 in
set_option maxHeartbeats 4000000 in
theorem S_M_isAlike_24 {d : Nat} {v1 : Int32} {v2 : Int32} {v3 : Int32} {v4 : Int32} {σ : fkS} {Q : Option Value → fkS → Prop} 
  (h : (vp_in v1 120 ∧
  (((σ.1 130 v1.toNatClampNeg) ≤ v4 →
    fk_bz v3 (Q (some (.int v3)) σ)) ∧
   (¬ (σ.1 130 v1.toNatClampNeg) ≤ v4 →
    ((v3 = 0 →
      fk_bz v3 (Q (some (.int v3)) σ)) ∧
     (¬ v3 = 0 →
      (vp_in v1 120 ∧
      (vp_in ((((4000 : Int32) * (σ.1 103 38)) + (σ.1 129 v1.toNatClampNeg)) + v4) 8000 ∧
      (vp_in v2 120 ∧
      (vp_in ((((4000 : Int32) * (σ.1 103 38)) + (σ.1 129 v2.toNatClampNeg)) + v4) 8000 ∧
      ((¬ (σ.1 105 (((((4000 : Int32) * (σ.1 103 38)) + (σ.1 129 v1.toNatClampNeg)) + v4).toNatClampNeg)) = (σ.1 105 (((((4000 : Int32) * (σ.1 103 38)) + (σ.1 129 v2.toNatClampNeg)) + v4).toNatClampNeg)) →
        Wq 267 d 24 [some (.ref 103), some (.int v1), some (.int v2), some (.int (0 : Int32)), some (.int (v4 + (1 : Int32)))] [] σ Q) ∧
       ((σ.1 105 (((((4000 : Int32) * (σ.1 103 38)) + (σ.1 129 v1.toNatClampNeg)) + v4).toNatClampNeg)) = (σ.1 105 (((((4000 : Int32) * (σ.1 103 38)) + (σ.1 129 v2.toNatClampNeg)) + v4).toNatClampNeg)) →
        Wq 267 d 24 [some (.ref 103), some (.int v1), some (.int v2), some (.int (1 : Int32)), some (.int (v4 + (1 : Int32)))] [] σ Q)))))))))))) :
  Wq 267 d 24 [some (.ref 103), some (.int v1), some (.int v2), some (.int v3), some (.int v4)] [] σ Q := by
  exact fk_run_sound (B := B_M_isAlike) (C := C_M_isAlike) (n := 14) ok_M_isAlike h
def B_M_areElements : fkB := [(0, [(.iconst 0, 1, []), (.istore_n 1, 1, [])]),
  (2, [(.iload_n 1, 1, []), (.aload_n 0, 1, []), (.getfield 47, 3, [12, 13, 1890, 0]), (.aload_n 0, 1, []), (.getfield 293, 3, [12, 38, 1915, 0]), (.iaload, 1, []), (.if_icmp .ge 89, 3, [101])]),
  (15, [(.bipush 60, 2, []), (.aload_n 0, 1, []), (.getfield 293, 3, [12, 38, 1915, 0]), (.imul, 1, []), (.iload_n 1, 1, []), (.iadd, 1, []), (.istore_n 2, 1, []), (.aload_n 0, 1, []), (.getfield 35, 3, [12, 9, 1886, 0]), (.aload_n 0, 1, []), (.getfield 293, 3, [12, 38, 1915, 0]), (.iaload, 1, []), (.ifCond .eq 14, 3, [48])]),
  (37, [(.aload_n 0, 1, []), (.getfield 99, 3, [12, 30, 1907, 0]), (.iload_n 2, 1, []), (.iaload, 1, []), (.bipush 65, 2, []), (.if_icmp .eq 5, 3, [50])]),
  (48, [(.iconst 0, 1, []), (.ireturn, 1, [])]),
  (50, [(.iconst 0, 1, []), (.istore_n 3, 1, [])]),
  (52, [(.iload_n 3, 1, []), (.aload_n 0, 1, []), (.getfield 102, 3, [12, 31, 1908, 0]), (.iload_n 2, 1, []), (.iaload, 1, []), (.if_icmp .ge 36, 3, [95])]),
  (62, [(.aload_n 0, 1, []), (.getfield 78, 3, [12, 23, 1900, 0]), (.bipush 60, 2, []), (.iload_n 2, 1, []), (.imul, 1, []), (.iload_n 3, 1, []), (.iadd, 1, []), (.laload, 1, []), (.aload_n 0, 1, []), (.getfield 32, 3, [12, 8, 1885, 0]), (.aload_n 0, 1, []), (.getfield 293, 3, [12, 38, 1915, 0]), (.iaload, 1, []), (.i2l, 1, []), (.lcmp, 1, []), (.ifCond .lt 5, 3, [89])]),
  (87, [(.iconst 0, 1, []), (.ireturn, 1, [])]),
  (89, [(.iinc 3 1, 3, []), (.goto (-40), 3, [52])]),
  (95, [(.iinc 1 1, 3, []), (.goto (-96), 3, [2])]),
  (101, [(.iconst 1, 1, []), (.ireturn, 1, [])])]
set_option maxRecDepth 100000 in
theorem ok_M_areElements : fk_okM 268 B_M_areElements = true := by decide +kernel
abbrev C_M_areElements : fkC := [(2, [true, true, false, false]), (52, [true, true, true, true])]
set_option maxRecDepth 100000 in
set_option maxHeartbeats 4000000 in
theorem S_M_areElements {d : Nat}  {σ : fkS} {Q : Option Value → fkS → Prop} 
  (h : Wq 268 d 2 [some (.ref 103), some (.int (0 : Int32)), none, none] [] σ Q) :
  Cl d 268 [.ref 103] σ Q := by
  exact Cl.run B_M_areElements C_M_areElements 15 fk_q268 ok_M_areElements rfl h
set_option maxRecDepth 100000 in
set_option maxHeartbeats 4000000 in
theorem S_M_areElements_2 {d : Nat} {v1 : Int32} {σ : fkS} {Q : Option Value → fkS → Prop} 
  (h : (vp_in (σ.1 103 38) 2 ∧
  (((σ.1 115 ((σ.1 103 38).toNatClampNeg)) ≤ v1 →
    Q (some (.int (1 : Int32))) σ) ∧
   (¬ (σ.1 115 ((σ.1 103 38).toNatClampNeg)) ≤ v1 →
    (vp_in (σ.1 103 38) 2 ∧
    (((σ.1 111 ((σ.1 103 38).toNatClampNeg)) = 0 →
      Q (some (.int (0 : Int32))) σ) ∧
     (¬ (σ.1 111 ((σ.1 103 38).toNatClampNeg)) = 0 →
      (vp_in (((60 : Int32) * (σ.1 103 38)) + v1) 120 ∧
      (((σ.1 132 ((((60 : Int32) * (σ.1 103 38)) + v1).toNatClampNeg)) = (65 : Int32) →
        Wq 268 d 52 [some (.ref 103), some (.int v1), some (.int (((60 : Int32) * (σ.1 103 38)) + v1)), some (.int (0 : Int32))] [] σ Q) ∧
       (¬ (σ.1 132 ((((60 : Int32) * (σ.1 103 38)) + v1).toNatClampNeg)) = (65 : Int32) →
        Q (some (.int (0 : Int32))) σ)))))))))) :
  Wq 268 d 2 [some (.ref 103), some (.int v1), none, none] [] σ Q := by
  exact fk_run_sound (B := B_M_areElements) (C := C_M_areElements) (n := 15) ok_M_areElements h
set_option maxRecDepth 100000 in
set_option maxHeartbeats 4000000 in
theorem S_M_areElements_52 {d : Nat} {v1 : Int32} {v2 : Int32} {v3 : Int32} {σ : fkS} {Q : Option Value → fkS → Prop} 
  (h : (vp_in v2 120 ∧
  (((σ.1 133 v2.toNatClampNeg) ≤ v3 →
    Wq 268 d 2 [some (.ref 103), some (.int (v1 + (1 : Int32))), none, none] [] σ Q) ∧
   (¬ (σ.1 133 v2.toNatClampNeg) ≤ v3 →
    (vp_in (((60 : Int32) * v2) + v3) 7200 ∧
    (vp_in (σ.1 103 38) 2 ∧
    (((lg_cmp (σ.2.1 125 ((((60 : Int32) * v2) + v3).toNatClampNeg)) ((σ.1 110 ((σ.1 103 38).toNatClampNeg)).toInt64)) < 0 →
      Wq 268 d 52 [some (.ref 103), some (.int v1), some (.int v2), some (.int (v3 + (1 : Int32)))] [] σ Q) ∧
     (¬ (lg_cmp (σ.2.1 125 ((((60 : Int32) * v2) + v3).toNatClampNeg)) ((σ.1 110 ((σ.1 103 38).toNatClampNeg)).toInt64)) < 0 →
      Q (some (.int (0 : Int32))) σ)))))))) :
  Wq 268 d 52 [some (.ref 103), some (.int v1), some (.int v2), some (.int v3)] [] σ Q := by
  exact fk_run_sound (B := B_M_areElements) (C := C_M_areElements) (n := 15) ok_M_areElements h
def B_M_isCode : fkB := [(0, [(.aload_n 0, 1, []), (.iload_n 1, 1, []), (.putfield 428, 3, [12, 55, 1932, 0]), (.aload_n 0, 1, []), (.bipush 60, 2, []), (.aload_n 0, 1, []), (.getfield 293, 3, [12, 38, 1915, 0]), (.imul, 1, []), (.aload_n 0, 1, []), (.getfield 53, 3, [12, 15, 1892, 0]), (.bipush 60, 2, []), (.aload_n 0, 1, []), (.getfield 293, 3, [12, 38, 1915, 0]), (.imul, 1, []), (.iload_n 1, 1, []), (.iadd, 1, []), (.laload, 1, []), (.l2i, 1, []), (.iadd, 1, []), (.putfield 430, 3, [12, 56, 1933, 0]), (.aload_n 0, 1, []), (.aload_n 0, 1, []), (.getfield 111, 3, [12, 34, 1911, 0]), (.bipush 60, 2, []), (.aload_n 0, 1, []), (.getfield 293, 3, [12, 38, 1915, 0]), (.imul, 1, []), (.iload_n 1, 1, []), (.iadd, 1, []), (.iaload, 1, []), (.putfield 296, 3, [12, 40, 1917, 0]), (.aload_n 0, 1, []), (.aload_n 0, 1, []), (.getfield 432, 3, [12, 58, 1935, 0]), (.putfield 299, 3, [12, 41, 1918, 0]), (.aload_n 0, 1, []), (.iconst 1, 1, []), (.putfield 418, 3, [12, 57, 1934, 0]), (.aload_n 0, 1, []), (.iconst 0, 1, []), (.putfield 412, 3, [12, 53, 1930, 0]), (.aload_n 0, 1, []), (.iconst 0, 1, []), (.putfield 415, 3, [12, 54, 1931, 0]), (.aload_n 0, 1, []), (.iconst (-1), 1, []), (.aload_n 0, 1, []), (.getfield 29, 3, [12, 7, 1884, 0]), (.aload_n 0, 1, []), (.getfield 430, 3, [12, 56, 1933, 0]), (.iaload, 1, []), (.aload_n 0, 1, []), (.getfield 29, 3, [12, 7, 1884, 0]), (.aload_n 0, 1, []), (.getfield 430, 3, [12, 56, 1933, 0]), (.iaload, 1, []), (.invokevirtual 435, 3, [270, 3, 2441, 0, 0, 12])]),
  (96, [(.aload_n 0, 1, []), (.getfield 418, 3, [12, 57, 1934, 0]), (.ifCond .eq 29, 3, [129])]),
  (103, [(.aload_n 0, 1, []), (.getfield 415, 3, [12, 54, 1931, 0]), (.ifCond .le 22, 3, [129])]),
  (110, [(.aload_n 0, 1, []), (.getfield 296, 3, [12, 40, 1917, 0]), (.istore_n 2, 1, []), (.aload_n 0, 1, []), (.invokevirtual 306, 3, [243, 0, 2331, 0, 1, 12]), (.istore_n 3, 1, []), (.aload_n 0, 1, []), (.iload_n 3, 1, []), (.iload_n 2, 1, []), (.invokevirtual 439, 3, [271, 2, 2445, 0, 0, 12]), (.goto (-30), 3, [96])]),
  (129, [(.aload_n 0, 1, []), (.getfield 418, 3, [12, 57, 1934, 0]), (.ireturn, 1, [])])]
set_option maxRecDepth 100000 in
theorem ok_M_isCode : fk_okM 269 B_M_isCode = true := by decide +kernel
abbrev C_M_isCode : fkC := [(96, [true, false, false, false])]
set_option maxRecDepth 100000 in
set_option maxHeartbeats 4000000 in
theorem S_M_isCode {d : Nat} {a0 : Int32} {σ : fkS} {Q : Option Value → fkS → Prop} 
  (h : (vp_in (((60 : Int32) * (σ.1 103 38)) + a0) 120 ∧
  (vp_in (((60 : Int32) * (σ.1 103 38)) + a0) 120 ∧
  (vp_in (((60 : Int32) * (σ.1 103 38)) + ((σ.2.1 117 ((((60 : Int32) * (σ.1 103 38)) + a0).toNatClampNeg)).toInt32)) 120 ∧
  (vp_in (((60 : Int32) * (σ.1 103 38)) + ((σ.2.1 117 ((((60 : Int32) * (σ.1 103 38)) + a0).toNatClampNeg)).toInt32)) 120 ∧
  (Cv d 270 [.ref 103, .int (-1 : Int32), .int (σ.1 109 ((((60 : Int32) * (σ.1 103 38)) + ((σ.2.1 117 ((((60 : Int32) * (σ.1 103 38)) + a0).toNatClampNeg)).toInt32)).toNatClampNeg)), .int (σ.1 109 ((((60 : Int32) * (σ.1 103 38)) + ((σ.2.1 117 ((((60 : Int32) * (σ.1 103 38)) + a0).toNatClampNeg)).toInt32)).toNatClampNeg))] (sI (sI (sI (sI (sI (sI (sI σ 103 55 a0) 103 56 (((60 : Int32) * (σ.1 103 38)) + ((σ.2.1 117 ((((60 : Int32) * (σ.1 103 38)) + a0).toNatClampNeg)).toInt32))) 103 40 (σ.1 136 ((((60 : Int32) * (σ.1 103 38)) + a0).toNatClampNeg))) 103 41 (σ.1 103 58)) 103 57 (1 : Int32)) 103 53 (0 : Int32)) 103 54 (0 : Int32)) (fun σ1 =>
  Wq 269 (d + 1) 96 [some (.ref 103), none, none, none] [] σ1 Q))))))) :
  Cl (d + 1) 269 [.ref 103, .int a0] σ Q := by
  exact Cl.run B_M_isCode C_M_isCode 8 fk_q269 ok_M_isCode rfl h
set_option maxRecDepth 100000 in
set_option maxHeartbeats 4000000 in
theorem S_M_isCode_96 {d : Nat}  {σ : fkS} {Q : Option Value → fkS → Prop} 
  (h : (((σ.1 103 57) = 0 →
    fk_bz (σ.1 103 57) (Q (some (.int (σ.1 103 57))) σ)) ∧
   (¬ (σ.1 103 57) = 0 →
    (((σ.1 103 54) ≤ 0 →
      fk_bz (σ.1 103 57) (Q (some (.int (σ.1 103 57))) σ)) ∧
     (¬ (σ.1 103 54) ≤ 0 →
      (Ci d 243 [.ref 103] σ (fun x2 σ1 =>
      (Cv d 271 [.ref 103, .int x2, .int (σ.1 103 40)] σ1 (fun σ3 =>
      Wq 269 (d + 1) 96 [some (.ref 103), none, none, none] [] σ3 Q))))))))) :
  Wq 269 (d + 1) 96 [some (.ref 103), none, none, none] [] σ Q := by
  exact fk_run_sound (B := B_M_isCode) (C := C_M_isCode) (n := 8) ok_M_isCode h
def B_M_opens : fkB := [(0, [(.aload_n 0, 1, []), (.getfield 135, 3, [12, 51, 1928, 0]), (.aload_n 0, 1, []), (.getfield 415, 3, [12, 54, 1931, 0]), (.iload_n 1, 1, []), (.iastore, 1, []), (.aload_n 0, 1, []), (.getfield 126, 3, [12, 48, 1925, 0]), (.aload_n 0, 1, []), (.getfield 415, 3, [12, 54, 1931, 0]), (.iload_n 2, 1, []), (.iastore, 1, []), (.aload_n 0, 1, []), (.getfield 129, 3, [12, 49, 1926, 0]), (.aload_n 0, 1, []), (.getfield 415, 3, [12, 54, 1931, 0]), (.iload_n 3, 1, []), (.iastore, 1, []), (.aload_n 0, 1, []), (.getfield 132, 3, [12, 50, 1927, 0]), (.aload_n 0, 1, []), (.getfield 415, 3, [12, 54, 1931, 0]), (.aload_n 0, 1, []), (.getfield 412, 3, [12, 53, 1930, 0]), (.iastore, 1, []), (.aload_n 0, 1, []), (.getfield 138, 3, [12, 52, 1929, 0]), (.aload_n 0, 1, []), (.getfield 415, 3, [12, 54, 1931, 0]), (.iconst 0, 1, []), (.bastore, 1, []), (.aload_n 0, 1, []), (.dup, 1, []), (.getfield 415, 3, [12, 54, 1931, 0]), (.iconst 1, 1, []), (.iadd, 1, []), (.putfield 415, 3, [12, 54, 1931, 0]), (.return_, 1, [])])]
set_option maxRecDepth 100000 in
theorem ok_M_opens : fk_okM 270 B_M_opens = true := by decide +kernel
abbrev C_M_opens : fkC := []
set_option maxRecDepth 100000 in
set_option maxHeartbeats 4000000 in
theorem S_M_opens {d : Nat} {a0 : Int32} {a1 : Int32} {a2 : Int32} {σ : fkS} {Q : Option Value → fkS → Prop} 
  (h : (vp_in (σ.1 103 54) 22 ∧
  (vp_in (σ.1 103 54) 22 ∧
  (vp_in (σ.1 103 54) 22 ∧
  (vp_in (σ.1 103 54) 22 ∧
  (vp_in (σ.1 103 54) 22 ∧
  Q none (sI (sI (sI (sI (sI (sI σ 144 ((σ.1 103 54).toNatClampNeg) a0) 141 ((σ.1 103 54).toNatClampNeg) a1) 142 ((σ.1 103 54).toNatClampNeg) a2) 143 ((σ.1 103 54).toNatClampNeg) (σ.1 103 53)) 145 ((σ.1 103 54).toNatClampNeg) (0 : Int32)) 103 54 ((σ.1 103 54) + (1 : Int32))))))))) :
  Cl d 270 [.ref 103, .int a0, .int a1, .int a2] σ Q := by
  exact Cl.run B_M_opens C_M_opens 4 fk_q270 ok_M_opens rfl h
def B_M_judges : fkB := [(0, [(.iload_n 1, 1, []), (.tableswitch 243 0 15 #[79, 84, 85, 85, 85, 130, 243, 243, 243, 243, 243, 147, 152, 152, 223, 228], 79, [244, 80, 85, 86, 86, 86, 131, 244, 244, 244, 244, 244, 148, 153, 153, 224, 229])]),
  (80, [(.aload_n 0, 1, []), (.invokevirtual 442, 3, [272, 0, 2449, 0, 0, 12]), (.return_, 1, [])]),
  (85, [(.return_, 1, [])]),
  (86, [(.iload_n 1, 1, []), (.iconst 4, 1, []), (.if_icmp .ne 9, 3, [97])]),
  (91, [(.aload_n 0, 1, []), (.bipush 127, 2, []), (.invokevirtual 425, 3, [273, 1, 2453, 0, 0, 12])]),
  (97, [(.aload_n 0, 1, []), (.invokevirtual 306, 3, [243, 0, 2331, 0, 1, 12]), (.istore_n 3, 1, []), (.iload_n 3, 1, []), (.bipush 64, 2, []), (.if_icmp .ne 7, 3, [112])]),
  (108, [(.iconst 0, 1, []), (.goto 4, 3, [113])]),
  (112, [(.iload_n 3, 1, [])]),
  (113, [(.istore_n 3, 1, []), (.aload_n 0, 1, []), (.iload_n 2, 1, []), (.iload_n 3, 1, []), (.iload_n 1, 1, []), (.iconst 3, 1, []), (.if_icmp .ne 7, 3, [126])]),
  (122, [(.iconst 0, 1, []), (.goto 4, 3, [127])]),
  (126, [(.iload_n 3, 1, [])]),
  (127, [(.invokevirtual 435, 3, [270, 3, 2441, 0, 0, 12]), (.return_, 1, [])]),
  (131, [(.aload_n 0, 1, []), (.invokevirtual 445, 3, [275, 0, 2461, 0, 0, 12]), (.aload_n 0, 1, []), (.getfield 138, 3, [12, 52, 1929, 0]), (.aload_n 0, 1, []), (.getfield 415, 3, [12, 54, 1931, 0]), (.iconst 1, 1, []), (.isub, 1, []), (.iconst 0, 1, []), (.bastore, 1, []), (.return_, 1, [])]),
  (148, [(.aload_n 0, 1, []), (.invokevirtual 448, 3, [276, 0, 2465, 0, 0, 12]), (.return_, 1, [])]),
  (153, [(.iload_n 1, 1, []), (.bipush 13, 2, []), (.if_icmp .ne 9, 3, [165])]),
  (159, [(.aload_n 0, 1, []), (.bipush 127, 2, []), (.invokevirtual 425, 3, [273, 1, 2453, 0, 0, 12])]),
  (165, [(.aload_n 0, 1, []), (.invokevirtual 321, 3, [246, 0, 2343, 0, 2, 12]), (.lstore 4, 2, []), (.aload_n 0, 1, []), (.lload 4, 2, []), (.invokevirtual 451, 3, [278, 1, 2473, 0, 1, 12]), (.ifCond .ne 4, 3, [181])]),
  (180, [(.return_, 1, [])]),
  (181, [(.aload_n 0, 1, []), (.aload_n 0, 1, []), (.lload 4, 2, []), (.invokevirtual 455, 3, [279, 1, 2477, 0, 1, 12]), (.invokevirtual 425, 3, [273, 1, 2453, 0, 0, 12]), (.iload_n 1, 1, []), (.bipush 12, 2, []), (.if_icmp .ne 10, 3, [204])]),
  (197, [(.aload_n 0, 1, []), (.invokevirtual 442, 3, [272, 0, 2449, 0, 0, 12]), (.goto 22, 3, [223])]),
  (204, [(.aload_n 0, 1, []), (.lload 4, 2, []), (.invokevirtual 455, 3, [279, 1, 2477, 0, 1, 12]), (.ifCond .eq 13, 3, [223])]),
  (213, [(.aload_n 0, 1, []), (.aload_n 0, 1, []), (.lload 4, 2, []), (.invokevirtual 455, 3, [279, 1, 2477, 0, 1, 12]), (.invokevirtual 459, 3, [277, 1, 2469, 0, 0, 12])]),
  (223, [(.return_, 1, [])]),
  (224, [(.aload_n 0, 1, []), (.invokevirtual 462, 3, [280, 0, 2481, 0, 0, 12]), (.return_, 1, [])]),
  (229, [(.aload_n 0, 1, []), (.aload_n 0, 1, []), (.getfield 126, 3, [12, 48, 1925, 0]), (.iconst 0, 1, []), (.iaload, 1, []), (.invokevirtual 425, 3, [273, 1, 2453, 0, 0, 12]), (.aload_n 0, 1, []), (.invokevirtual 442, 3, [272, 0, 2449, 0, 0, 12]), (.return_, 1, [])]),
  (244, [(.aload_n 0, 1, []), (.iload_n 1, 1, []), (.invokevirtual 465, 3, [281, 1, 2485, 0, 0, 12]), (.return_, 1, [])])]
set_option maxRecDepth 100000 in
theorem ok_M_judges : fk_okM 271 B_M_judges = true := by decide +kernel
abbrev C_M_judges : fkC := [(97, [true, true, true, false, false, false]), (165, [true, true, false, false, false, false])]
set_option maxRecDepth 100000 in
set_option maxHeartbeats 4000000 in
theorem S_M_judges {d : Nat} {a0 : Int32} {a1 : Int32} {σ : fkS} {Q : Option Value → fkS → Prop} 
  (h : (((a0.toInt < 0 ∨ 15 < a0.toInt) →
    (Cv d 281 [.ref 103, .int a0] σ (fun σ1 =>
    Q none σ1))) ∧
   (a0.toInt = 0 →
    (Cv d 272 [.ref 103] σ (fun σ2 =>
    Q none σ2))) ∧
   (a0.toInt = 1 →
    Q none σ) ∧
   (a0.toInt = 2 →
    ((¬ a0 = (4 : Int32) →
      Wq 271 (d + 1) 97 [some (.ref 103), some (.int a0), some (.int a1), none, none, none] [] σ Q) ∧
     (a0 = (4 : Int32) →
      (Cv d 273 [.ref 103, .int (127 : Int32)] σ (fun σ3 =>
      Wq 271 (d + 1) 97 [some (.ref 103), some (.int a0), some (.int a1), none, none, none] [] σ3 Q))))) ∧
   (a0.toInt = 3 →
    ((¬ a0 = (4 : Int32) →
      Wq 271 (d + 1) 97 [some (.ref 103), some (.int a0), some (.int a1), none, none, none] [] σ Q) ∧
     (a0 = (4 : Int32) →
      (Cv d 273 [.ref 103, .int (127 : Int32)] σ (fun σ4 =>
      Wq 271 (d + 1) 97 [some (.ref 103), some (.int a0), some (.int a1), none, none, none] [] σ4 Q))))) ∧
   (a0.toInt = 4 →
    ((¬ a0 = (4 : Int32) →
      Wq 271 (d + 1) 97 [some (.ref 103), some (.int a0), some (.int a1), none, none, none] [] σ Q) ∧
     (a0 = (4 : Int32) →
      (Cv d 273 [.ref 103, .int (127 : Int32)] σ (fun σ5 =>
      Wq 271 (d + 1) 97 [some (.ref 103), some (.int a0), some (.int a1), none, none, none] [] σ5 Q))))) ∧
   (a0.toInt = 5 →
    (Cv d 275 [.ref 103] σ (fun σ6 =>
    (vp_in ((σ6.1 103 54) - (1 : Int32)) 22 ∧
    Q none (sI σ6 145 (((σ6.1 103 54) - (1 : Int32)).toNatClampNeg) (0 : Int32)))))) ∧
   (a0.toInt = 6 →
    (Cv d 281 [.ref 103, .int a0] σ (fun σ7 =>
    Q none σ7))) ∧
   (a0.toInt = 7 →
    (Cv d 281 [.ref 103, .int a0] σ (fun σ8 =>
    Q none σ8))) ∧
   (a0.toInt = 8 →
    (Cv d 281 [.ref 103, .int a0] σ (fun σ9 =>
    Q none σ9))) ∧
   (a0.toInt = 9 →
    (Cv d 281 [.ref 103, .int a0] σ (fun σ10 =>
    Q none σ10))) ∧
   (a0.toInt = 10 →
    (Cv d 281 [.ref 103, .int a0] σ (fun σ11 =>
    Q none σ11))) ∧
   (a0.toInt = 11 →
    (Cv d 276 [.ref 103] σ (fun σ12 =>
    Q none σ12))) ∧
   (a0.toInt = 12 →
    ((¬ a0 = (13 : Int32) →
      Wq 271 (d + 1) 165 [some (.ref 103), some (.int a0), none, none, none, none] [] σ Q) ∧
     (a0 = (13 : Int32) →
      (Cv d 273 [.ref 103, .int (127 : Int32)] σ (fun σ13 =>
      Wq 271 (d + 1) 165 [some (.ref 103), some (.int a0), none, none, none, none] [] σ13 Q))))) ∧
   (a0.toInt = 13 →
    ((¬ a0 = (13 : Int32) →
      Wq 271 (d + 1) 165 [some (.ref 103), some (.int a0), none, none, none, none] [] σ Q) ∧
     (a0 = (13 : Int32) →
      (Cv d 273 [.ref 103, .int (127 : Int32)] σ (fun σ14 =>
      Wq 271 (d + 1) 165 [some (.ref 103), some (.int a0), none, none, none, none] [] σ14 Q))))) ∧
   (a0.toInt = 14 →
    (Cv d 280 [.ref 103] σ (fun σ15 =>
    Q none σ15))) ∧
   (a0.toInt = 15 →
    (vp_in (0 : Int32) 22 ∧
    (Cv d 273 [.ref 103, .int (σ.1 141 ((0 : Int32).toNatClampNeg))] σ (fun σ16 =>
    (Cv d 272 [.ref 103] σ16 (fun σ17 =>
    Q none σ17)))))) ∧ True)) :
  Cl (d + 1) 271 [.ref 103, .int a0, .int a1] σ Q := by
  exact Cl.run B_M_judges C_M_judges 29 fk_q271 ok_M_judges rfl h
set_option maxRecDepth 100000 in
set_option maxHeartbeats 4000000 in
theorem S_M_judges_97 {d : Nat} {v1 : Int32} {v2 : Int32} {σ : fkS} {Q : Option Value → fkS → Prop} 
  (h : (Ci d 243 [.ref 103] σ (fun x2 σ1 =>
  ((¬ x2 = (64 : Int32) →
    ((¬ v1 = (3 : Int32) →
      (Cv d 270 [.ref 103, .int v2, .int x2, .int x2] σ1 (fun σ3 =>
      Q none σ3))) ∧
     (v1 = (3 : Int32) →
      (Cv d 270 [.ref 103, .int v2, .int x2, .int (0 : Int32)] σ1 (fun σ4 =>
      Q none σ4))))) ∧
   (x2 = (64 : Int32) →
    ((¬ v1 = (3 : Int32) →
      (Cv d 270 [.ref 103, .int v2, .int (0 : Int32), .int (0 : Int32)] σ1 (fun σ5 =>
      Q none σ5))) ∧
     (v1 = (3 : Int32) →
      (Cv d 270 [.ref 103, .int v2, .int (0 : Int32), .int (0 : Int32)] σ1 (fun σ6 =>
      Q none σ6))))))))) :
  Wq 271 (d + 1) 97 [some (.ref 103), some (.int v1), some (.int v2), none, none, none] [] σ Q := by
  exact fk_run_sound (B := B_M_judges) (C := C_M_judges) (n := 29) ok_M_judges h
set_option maxRecDepth 100000 in
set_option maxHeartbeats 4000000 in
theorem S_M_judges_165 {d : Nat} {v1 : Int32} {σ : fkS} {Q : Option Value → fkS → Prop} 
  (h : (Cj d 246 [.ref 103] σ (fun x2 σ1 =>
  (Ci d 278 [.ref 103, .long x2] σ1 (fun x4 σ3 =>
  ((¬ x4 = 0 →
    (Ci d 279 [.ref 103, .long x2] σ3 (fun x6 σ5 =>
    (Cv d 273 [.ref 103, .int x6] σ5 (fun σ7 =>
    ((¬ v1 = (12 : Int32) →
      (Ci d 279 [.ref 103, .long x2] σ7 (fun x9 σ8 =>
      ((x9 = 0 →
        Q none σ8) ∧
       (¬ x9 = 0 →
        (Ci d 279 [.ref 103, .long x2] σ8 (fun x11 σ10 =>
        (Cv d 277 [.ref 103, .int x11] σ10 (fun σ12 =>
        Q none σ12))))))))) ∧
     (v1 = (12 : Int32) →
      (Cv d 272 [.ref 103] σ7 (fun σ13 =>
      Q none σ13))))))))) ∧
   (x4 = 0 →
    Q none σ3))))))) :
  Wq 271 (d + 1) 165 [some (.ref 103), some (.int v1), none, none, none, none] [] σ Q := by
  exact fk_run_sound (B := B_M_judges) (C := C_M_judges) (n := 29) ok_M_judges h
def B_M_gone : fkB := [(0, [(.aload_n 0, 1, []), (.aload_n 0, 1, []), (.getfield 132, 3, [12, 50, 1927, 0]), (.aload_n 0, 1, []), (.getfield 415, 3, [12, 54, 1931, 0]), (.iconst 1, 1, []), (.isub, 1, []), (.iaload, 1, []), (.putfield 412, 3, [12, 53, 1930, 0]), (.aload_n 0, 1, []), (.getfield 138, 3, [12, 52, 1929, 0]), (.aload_n 0, 1, []), (.getfield 415, 3, [12, 54, 1931, 0]), (.iconst 1, 1, []), (.isub, 1, []), (.iconst 1, 1, []), (.bastore, 1, []), (.return_, 1, [])])]
set_option maxRecDepth 100000 in
theorem ok_M_gone : fk_okM 272 B_M_gone = true := by decide +kernel
abbrev C_M_gone : fkC := []
set_option maxRecDepth 100000 in
set_option maxHeartbeats 4000000 in
theorem S_M_gone {d : Nat}  {σ : fkS} {Q : Option Value → fkS → Prop} 
  (h : (vp_in ((σ.1 103 54) - (1 : Int32)) 22 ∧
  (vp_in ((σ.1 103 54) - (1 : Int32)) 22 ∧
  Q none (sI (sI σ 103 53 (σ.1 143 (((σ.1 103 54) - (1 : Int32)).toNatClampNeg))) 145 (((σ.1 103 54) - (1 : Int32)).toNatClampNeg) (1 : Int32))))) :
  Cl d 272 [.ref 103] σ Q := by
  exact Cl.run B_M_gone C_M_gone 4 fk_q272 ok_M_gone rfl h
def B_M_popOf : fkB := [(0, [(.iload_n 1, 1, []), (.ifCond .ne 4, 3, [5])]),
  (4, [(.return_, 1, [])]),
  (5, [(.aload_n 0, 1, []), (.invokevirtual 422, 3, [274, 0, 2457, 0, 1, 12]), (.istore_n 2, 1, []), (.iload_n 2, 1, []), (.ifCond .eq 13, 3, [24])]),
  (14, [(.iload_n 2, 1, []), (.iload_n 1, 1, []), (.if_icmp .eq 8, 3, [24])]),
  (19, [(.aload_n 0, 1, []), (.iconst 0, 1, []), (.putfield 418, 3, [12, 57, 1934, 0])]),
  (24, [(.return_, 1, [])])]
set_option maxRecDepth 100000 in
theorem ok_M_popOf : fk_okM 273 B_M_popOf = true := by decide +kernel
abbrev C_M_popOf : fkC := []
set_option maxRecDepth 100000 in
set_option maxHeartbeats 4000000 in
theorem S_M_popOf {d : Nat} {a0 : Int32} {σ : fkS} {Q : Option Value → fkS → Prop} 
  (h : ((¬ a0 = 0 →
    (Ci d 274 [.ref 103] σ (fun x2 σ1 =>
    ((x2 = 0 →
      Q none σ1) ∧
     (¬ x2 = 0 →
      ((x2 = a0 →
        Q none σ1) ∧
       (¬ x2 = a0 →
        Q none (sI σ1 103 57 (0 : Int32))))))))) ∧
   (a0 = 0 →
    Q none σ))) :
  Cl (d + 1) 273 [.ref 103, .int a0] σ Q := by
  exact Cl.run B_M_popOf C_M_popOf 9 fk_q273 ok_M_popOf rfl h
def B_M_pop : fkB := [(0, [(.aload_n 0, 1, []), (.getfield 412, 3, [12, 53, 1930, 0]), (.aload_n 0, 1, []), (.getfield 132, 3, [12, 50, 1927, 0]), (.aload_n 0, 1, []), (.getfield 415, 3, [12, 54, 1931, 0]), (.iconst 1, 1, []), (.isub, 1, []), (.iaload, 1, []), (.if_icmp .ne 24, 3, [39])]),
  (18, [(.aload_n 0, 1, []), (.getfield 138, 3, [12, 52, 1929, 0]), (.aload_n 0, 1, []), (.getfield 415, 3, [12, 54, 1931, 0]), (.iconst 1, 1, []), (.isub, 1, []), (.baload, 1, []), (.ifCond .ne 8, 3, [37])]),
  (32, [(.aload_n 0, 1, []), (.iconst 0, 1, []), (.putfield 418, 3, [12, 57, 1934, 0])]),
  (37, [(.iconst 0, 1, []), (.ireturn, 1, [])]),
  (39, [(.aload_n 0, 1, []), (.dup, 1, []), (.getfield 412, 3, [12, 53, 1930, 0]), (.iconst 1, 1, []), (.isub, 1, []), (.putfield 412, 3, [12, 53, 1930, 0]), (.aload_n 0, 1, []), (.getfield 123, 3, [12, 47, 1924, 0]), (.aload_n 0, 1, []), (.getfield 412, 3, [12, 53, 1930, 0]), (.iaload, 1, []), (.ireturn, 1, [])])]
set_option maxRecDepth 100000 in
theorem ok_M_pop : fk_okM 274 B_M_pop = true := by decide +kernel
abbrev C_M_pop : fkC := []
set_option maxRecDepth 100000 in
set_option maxHeartbeats 4000000 in
theorem S_M_pop {d : Nat}  {σ : fkS} {Q : Option Value → fkS → Prop} 
  (h : (vp_in ((σ.1 103 54) - (1 : Int32)) 22 ∧
  ((¬ (σ.1 103 53) = (σ.1 143 (((σ.1 103 54) - (1 : Int32)).toNatClampNeg)) →
    (vp_in ((σ.1 103 53) - (1 : Int32)) 4080 ∧
    Q (some (.int (σ.1 140 (((σ.1 103 53) - (1 : Int32)).toNatClampNeg)))) (sI σ 103 53 ((σ.1 103 53) - (1 : Int32))))) ∧
   ((σ.1 103 53) = (σ.1 143 (((σ.1 103 54) - (1 : Int32)).toNatClampNeg)) →
    (vp_in ((σ.1 103 54) - (1 : Int32)) 22 ∧
    ((¬ (σ.1 145 (((σ.1 103 54) - (1 : Int32)).toNatClampNeg)) = 0 →
      Q (some (.int (0 : Int32))) σ) ∧
     ((σ.1 145 (((σ.1 103 54) - (1 : Int32)).toNatClampNeg)) = 0 →
      Q (some (.int (0 : Int32))) (sI σ 103 57 (0 : Int32))))))))) :
  Cl d 274 [.ref 103] σ Q := by
  exact Cl.run B_M_pop C_M_pop 8 fk_q274 ok_M_pop rfl h
def B_M_closes : fkB := [(0, [(.aload_n 0, 1, []), (.aload_n 0, 1, []), (.getfield 126, 3, [12, 48, 1925, 0]), (.aload_n 0, 1, []), (.getfield 415, 3, [12, 54, 1931, 0]), (.iconst 1, 1, []), (.isub, 1, []), (.iaload, 1, []), (.invokevirtual 425, 3, [273, 1, 2453, 0, 0, 12]), (.aload_n 0, 1, []), (.getfield 412, 3, [12, 53, 1930, 0]), (.aload_n 0, 1, []), (.getfield 132, 3, [12, 50, 1927, 0]), (.aload_n 0, 1, []), (.getfield 415, 3, [12, 54, 1931, 0]), (.iconst 1, 1, []), (.isub, 1, []), (.iaload, 1, []), (.if_icmp .eq 8, 3, [38])]),
  (33, [(.aload_n 0, 1, []), (.iconst 0, 1, []), (.putfield 418, 3, [12, 57, 1934, 0])]),
  (38, [(.aload_n 0, 1, []), (.aload_n 0, 1, []), (.getfield 132, 3, [12, 50, 1927, 0]), (.aload_n 0, 1, []), (.getfield 415, 3, [12, 54, 1931, 0]), (.iconst 1, 1, []), (.isub, 1, []), (.iaload, 1, []), (.putfield 412, 3, [12, 53, 1930, 0]), (.return_, 1, [])])]
set_option maxRecDepth 100000 in
theorem ok_M_closes : fk_okM 275 B_M_closes = true := by decide +kernel
abbrev C_M_closes : fkC := []
set_option maxRecDepth 100000 in
set_option maxHeartbeats 4000000 in
theorem S_M_closes {d : Nat}  {σ : fkS} {Q : Option Value → fkS → Prop} 
  (h : (vp_in ((σ.1 103 54) - (1 : Int32)) 22 ∧
  (Cv d 273 [.ref 103, .int (σ.1 141 (((σ.1 103 54) - (1 : Int32)).toNatClampNeg))] σ (fun σ1 =>
  (vp_in ((σ1.1 103 54) - (1 : Int32)) 22 ∧
  (((σ1.1 103 53) = (σ1.1 143 (((σ1.1 103 54) - (1 : Int32)).toNatClampNeg)) →
    (vp_in ((σ1.1 103 54) - (1 : Int32)) 22 ∧
    Q none (sI σ1 103 53 (σ1.1 143 (((σ1.1 103 54) - (1 : Int32)).toNatClampNeg))))) ∧
   (¬ (σ1.1 103 53) = (σ1.1 143 (((σ1.1 103 54) - (1 : Int32)).toNatClampNeg)) →
    (vp_in ((σ1.1 103 54) - (1 : Int32)) 22 ∧
    Q none (sI (sI σ1 103 57 (0 : Int32)) 103 53 (σ1.1 143 (((σ1.1 103 54) - (1 : Int32)).toNatClampNeg))))))))))) :
  Cl (d + 1) 275 [.ref 103] σ Q := by
  exact Cl.run B_M_closes C_M_closes 6 fk_q275 ok_M_closes rfl h
def B_M_ends : fkB := [(0, [(.aload_n 0, 1, []), (.getfield 126, 3, [12, 48, 1925, 0]), (.aload_n 0, 1, []), (.getfield 415, 3, [12, 54, 1931, 0]), (.iconst 1, 1, []), (.isub, 1, []), (.iaload, 1, []), (.istore_n 1, 1, []), (.aload_n 0, 1, []), (.getfield 135, 3, [12, 51, 1928, 0]), (.aload_n 0, 1, []), (.getfield 415, 3, [12, 54, 1931, 0]), (.iconst 1, 1, []), (.isub, 1, []), (.iaload, 1, []), (.istore_n 2, 1, []), (.aload_n 0, 1, []), (.invokevirtual 445, 3, [275, 0, 2461, 0, 0, 12]), (.iload_n 2, 1, []), (.ifCond .lt 49, 3, [78])]),
  (32, [(.aload_n 0, 1, []), (.getfield 17, 3, [12, 3, 1880, 0]), (.sipush 4000, 3, []), (.aload_n 0, 1, []), (.getfield 293, 3, [12, 38, 1915, 0]), (.imul, 1, []), (.iload_n 2, 1, []), (.iadd, 1, []), (.iaload, 1, []), (.iconst 4, 1, []), (.if_icmp .ne 30, 3, [78])]),
  (51, [(.aload_n 0, 1, []), (.getfield 114, 3, [12, 35, 1912, 0]), (.sipush 4000, 3, []), (.aload_n 0, 1, []), (.getfield 293, 3, [12, 38, 1915, 0]), (.imul, 1, []), (.iload_n 2, 1, []), (.iadd, 1, []), (.iaload, 1, []), (.ifCond .ge 12, 3, [78])]),
  (69, [(.iload_n 1, 1, []), (.ifCond .eq 8, 3, [78])]),
  (73, [(.aload_n 0, 1, []), (.iconst 0, 1, []), (.putfield 418, 3, [12, 57, 1934, 0])]),
  (78, [(.aload_n 0, 1, []), (.dup, 1, []), (.getfield 415, 3, [12, 54, 1931, 0]), (.iconst 1, 1, []), (.isub, 1, []), (.putfield 415, 3, [12, 54, 1931, 0]), (.iload_n 1, 1, []), (.ifCond .eq 15, 3, [104])]),
  (92, [(.aload_n 0, 1, []), (.getfield 415, 3, [12, 54, 1931, 0]), (.ifCond .le 8, 3, [104])]),
  (99, [(.aload_n 0, 1, []), (.iload_n 1, 1, []), (.invokevirtual 459, 3, [277, 1, 2469, 0, 0, 12])]),
  (104, [(.return_, 1, [])])]
set_option maxRecDepth 100000 in
theorem ok_M_ends : fk_okM 276 B_M_ends = true := by decide +kernel
abbrev C_M_ends : fkC := [(78, [true, true, false])]
set_option maxRecDepth 100000 in
set_option maxHeartbeats 4000000 in
theorem S_M_ends {d : Nat}  {σ : fkS} {Q : Option Value → fkS → Prop} 
  (h : (vp_in ((σ.1 103 54) - (1 : Int32)) 22 ∧
  (vp_in ((σ.1 103 54) - (1 : Int32)) 22 ∧
  (Cv d 275 [.ref 103] σ (fun σ1 =>
  (((σ.1 144 (((σ.1 103 54) - (1 : Int32)).toNatClampNeg)) < 0 →
    Wq 276 (d + 1) 78 [some (.ref 103), some (.int (σ.1 141 (((σ.1 103 54) - (1 : Int32)).toNatClampNeg))), none] [] σ1 Q) ∧
   (¬ (σ.1 144 (((σ.1 103 54) - (1 : Int32)).toNatClampNeg)) < 0 →
    (vp_in (((4000 : Int32) * (σ1.1 103 38)) + (σ.1 144 (((σ.1 103 54) - (1 : Int32)).toNatClampNeg))) 8000 ∧
    ((¬ (σ1.1 105 ((((4000 : Int32) * (σ1.1 103 38)) + (σ.1 144 (((σ.1 103 54) - (1 : Int32)).toNatClampNeg))).toNatClampNeg)) = (4 : Int32) →
      Wq 276 (d + 1) 78 [some (.ref 103), some (.int (σ.1 141 (((σ.1 103 54) - (1 : Int32)).toNatClampNeg))), none] [] σ1 Q) ∧
     ((σ1.1 105 ((((4000 : Int32) * (σ1.1 103 38)) + (σ.1 144 (((σ.1 103 54) - (1 : Int32)).toNatClampNeg))).toNatClampNeg)) = (4 : Int32) →
      (vp_in (((4000 : Int32) * (σ1.1 103 38)) + (σ.1 144 (((σ.1 103 54) - (1 : Int32)).toNatClampNeg))) 8000 ∧
      ((0 ≤ (σ1.1 137 ((((4000 : Int32) * (σ1.1 103 38)) + (σ.1 144 (((σ.1 103 54) - (1 : Int32)).toNatClampNeg))).toNatClampNeg)) →
        Wq 276 (d + 1) 78 [some (.ref 103), some (.int (σ.1 141 (((σ.1 103 54) - (1 : Int32)).toNatClampNeg))), none] [] σ1 Q) ∧
       (¬ 0 ≤ (σ1.1 137 ((((4000 : Int32) * (σ1.1 103 38)) + (σ.1 144 (((σ.1 103 54) - (1 : Int32)).toNatClampNeg))).toNatClampNeg)) →
        (((σ.1 141 (((σ.1 103 54) - (1 : Int32)).toNatClampNeg)) = 0 →
          Wq 276 (d + 1) 78 [some (.ref 103), some (.int (σ.1 141 (((σ.1 103 54) - (1 : Int32)).toNatClampNeg))), none] [] σ1 Q) ∧
         (¬ (σ.1 141 (((σ.1 103 54) - (1 : Int32)).toNatClampNeg)) = 0 →
          Wq 276 (d + 1) 78 [some (.ref 103), some (.int (σ.1 141 (((σ.1 103 54) - (1 : Int32)).toNatClampNeg))), none] [] (sI σ1 103 57 (0 : Int32)) Q))))))))))))))) :
  Cl (d + 1) 276 [.ref 103] σ Q := by
  exact Cl.run B_M_ends C_M_ends 12 fk_q276 ok_M_ends rfl h
set_option maxRecDepth 100000 in
set_option maxHeartbeats 4000000 in
theorem S_M_ends_78 {d : Nat} {v1 : Int32} {σ : fkS} {Q : Option Value → fkS → Prop} 
  (h : ((v1 = 0 →
    Q none (sI σ 103 54 ((σ.1 103 54) - (1 : Int32)))) ∧
   (¬ v1 = 0 →
    ((((σ.1 103 54) - (1 : Int32)) ≤ 0 →
      Q none (sI σ 103 54 ((σ.1 103 54) - (1 : Int32)))) ∧
     (¬ ((σ.1 103 54) - (1 : Int32)) ≤ 0 →
      (Cv d 277 [.ref 103, .int v1] (sI σ 103 54 ((σ.1 103 54) - (1 : Int32))) (fun σ1 =>
      Q none σ1))))))) :
  Wq 276 (d + 1) 78 [some (.ref 103), some (.int v1), none] [] σ Q := by
  exact fk_run_sound (B := B_M_ends) (C := C_M_ends) (n := 12) ok_M_ends h
def B_M_push : fkB := [(0, [(.aload_n 0, 1, []), (.getfield 123, 3, [12, 47, 1924, 0]), (.aload_n 0, 1, []), (.getfield 412, 3, [12, 53, 1930, 0]), (.iload_n 1, 1, []), (.iastore, 1, []), (.aload_n 0, 1, []), (.dup, 1, []), (.getfield 412, 3, [12, 53, 1930, 0]), (.iconst 1, 1, []), (.iadd, 1, []), (.putfield 412, 3, [12, 53, 1930, 0]), (.return_, 1, [])])]
set_option maxRecDepth 100000 in
theorem ok_M_push : fk_okM 277 B_M_push = true := by decide +kernel
abbrev C_M_push : fkC := []
set_option maxRecDepth 100000 in
set_option maxHeartbeats 4000000 in
theorem S_M_push {d : Nat} {a0 : Int32} {σ : fkS} {Q : Option Value → fkS → Prop} 
  (h : (vp_in (σ.1 103 53) 4080 ∧
  Q none (sI (sI σ 140 ((σ.1 103 53).toNatClampNeg) a0) 103 53 ((σ.1 103 53) + (1 : Int32))))) :
  Cl d 277 [.ref 103, .int a0] σ Q := by
  exact Cl.run B_M_push C_M_push 4 fk_q277 ok_M_push rfl h
def B_M_isLabel : fkB := [(0, [(.lload_n 1, 1, []), (.aload_n 0, 1, []), (.getfield 415, 3, [12, 54, 1931, 0]), (.i2l, 1, []), (.lcmp, 1, []), (.ifCond .lt 8, 3, [15])]),
  (10, [(.aload_n 0, 1, []), (.iconst 0, 1, []), (.putfield 418, 3, [12, 57, 1934, 0])]),
  (15, [(.lload_n 1, 1, []), (.aload_n 0, 1, []), (.getfield 415, 3, [12, 54, 1931, 0]), (.i2l, 1, []), (.lcmp, 1, []), (.ifCond .ge 7, 3, [29])]),
  (25, [(.iconst 1, 1, []), (.goto 4, 3, [30])]),
  (29, [(.iconst 0, 1, [])]),
  (30, [(.ireturn, 1, [])])]
set_option maxRecDepth 100000 in
theorem ok_M_isLabel : fk_okM 278 B_M_isLabel = true := by decide +kernel
abbrev C_M_isLabel : fkC := []
set_option maxRecDepth 100000 in
set_option maxHeartbeats 4000000 in
theorem S_M_isLabel {d : Nat} {a0 : Int64} {σ : fkS} {Q : Option Value → fkS → Prop} 
  (h : (((lg_cmp a0 ((σ.1 103 54).toInt64)) < 0 →
    ((0 ≤ (lg_cmp a0 ((σ.1 103 54).toInt64)) →
      Q (some (.int (0 : Int32))) σ) ∧
     (¬ 0 ≤ (lg_cmp a0 ((σ.1 103 54).toInt64)) →
      Q (some (.int (1 : Int32))) σ))) ∧
   (¬ (lg_cmp a0 ((σ.1 103 54).toInt64)) < 0 →
    ((0 ≤ (lg_cmp a0 ((σ.1 103 54).toInt64)) →
      Q (some (.int (0 : Int32))) (sI σ 103 57 (0 : Int32))) ∧
     (¬ 0 ≤ (lg_cmp a0 ((σ.1 103 54).toInt64)) →
      Q (some (.int (1 : Int32))) (sI σ 103 57 (0 : Int32))))))) :
  Cl d 278 [.ref 103, .long a0] σ Q := by
  exact Cl.run B_M_isLabel C_M_isLabel 9 fk_q278 ok_M_isLabel rfl h
def B_M_needs : fkB := [(0, [(.aload_n 0, 1, []), (.getfield 129, 3, [12, 49, 1926, 0]), (.aload_n 0, 1, []), (.getfield 415, 3, [12, 54, 1931, 0]), (.iconst 1, 1, []), (.isub, 1, []), (.lload_n 1, 1, []), (.l2i, 1, []), (.isub, 1, []), (.iaload, 1, []), (.ireturn, 1, [])])]
set_option maxRecDepth 100000 in
theorem ok_M_needs : fk_okM 279 B_M_needs = true := by decide +kernel
abbrev C_M_needs : fkC := []
set_option maxRecDepth 100000 in
set_option maxHeartbeats 4000000 in
theorem S_M_needs {d : Nat} {a0 : Int64} {σ : fkS} {Q : Option Value → fkS → Prop} 
  (h : (vp_in (((σ.1 103 54) - (1 : Int32)) - a0.toInt32) 22 ∧
  Q (some (.int (σ.1 142 ((((σ.1 103 54) - (1 : Int32)) - a0.toInt32).toNatClampNeg)))) σ)) :
  Cl d 279 [.ref 103, .long a0] σ Q := by
  exact Cl.run B_M_needs C_M_needs 4 fk_q279 ok_M_needs rfl h
def B_M_branches : fkB := [(0, [(.aload_n 0, 1, []), (.bipush 127, 2, []), (.invokevirtual 425, 3, [273, 1, 2453, 0, 0, 12]), (.aload_n 0, 1, []), (.invokevirtual 339, 3, [250, 0, 2359, 0, 1, 12]), (.istore_n 1, 1, []), (.iconst (-1), 1, []), (.istore_n 2, 1, []), (.iconst 0, 1, []), (.istore_n 3, 1, [])]),
  (15, [(.iload_n 3, 1, []), (.iload_n 1, 1, []), (.if_icmp .gt 58, 3, [75])]),
  (20, [(.aload_n 0, 1, []), (.getfield 418, 3, [12, 57, 1934, 0]), (.ifCond .eq 51, 3, [75])]),
  (27, [(.aload_n 0, 1, []), (.invokevirtual 321, 3, [246, 0, 2343, 0, 2, 12]), (.lstore 4, 2, []), (.aload_n 0, 1, []), (.lload 4, 2, []), (.invokevirtual 451, 3, [278, 1, 2473, 0, 1, 12]), (.ifCond .ne 4, 3, [43])]),
  (42, [(.return_, 1, [])]),
  (43, [(.iload_n 2, 1, []), (.ifCond .lt 18, 3, [62])]),
  (47, [(.aload_n 0, 1, []), (.lload 4, 2, []), (.invokevirtual 455, 3, [279, 1, 2477, 0, 1, 12]), (.iload_n 2, 1, []), (.if_icmp .eq 8, 3, [62])]),
  (57, [(.aload_n 0, 1, []), (.iconst 0, 1, []), (.putfield 418, 3, [12, 57, 1934, 0])]),
  (62, [(.aload_n 0, 1, []), (.lload 4, 2, []), (.invokevirtual 455, 3, [279, 1, 2477, 0, 1, 12]), (.istore_n 2, 1, []), (.iinc 3 1, 3, []), (.goto (-57), 3, [15])]),
  (75, [(.aload_n 0, 1, []), (.iload_n 2, 1, []), (.invokevirtual 425, 3, [273, 1, 2453, 0, 0, 12]), (.aload_n 0, 1, []), (.invokevirtual 442, 3, [272, 0, 2449, 0, 0, 12]), (.return_, 1, [])])]
set_option maxRecDepth 100000 in
theorem ok_M_branches : fk_okM 280 B_M_branches = true := by decide +kernel
abbrev C_M_branches : fkC := [(15, [true, true, true, true, false, false])]
set_option maxRecDepth 100000 in
set_option maxHeartbeats 4000000 in
theorem S_M_branches {d : Nat}  {σ : fkS} {Q : Option Value → fkS → Prop} 
  (h : (Cv d 273 [.ref 103, .int (127 : Int32)] σ (fun σ1 =>
  (Ci d 250 [.ref 103] σ1 (fun x3 σ2 =>
  Wq 280 (d + 1) 15 [some (.ref 103), some (.int x3), some (.int (-1 : Int32)), some (.int (0 : Int32)), none, none] [] σ2 Q))))) :
  Cl (d + 1) 280 [.ref 103] σ Q := by
  exact Cl.run B_M_branches C_M_branches 13 fk_q280 ok_M_branches rfl h
set_option maxRecDepth 100000 in
set_option maxHeartbeats 4000000 in
theorem S_M_branches_15 {d : Nat} {v1 : Int32} {v2 : Int32} {v3 : Int32} {σ : fkS} {Q : Option Value → fkS → Prop} 
  (h : ((v1 < v3 →
    (Cv d 273 [.ref 103, .int v2] σ (fun σ1 =>
    (Cv d 272 [.ref 103] σ1 (fun σ2 =>
    Q none σ2))))) ∧
   (¬ v1 < v3 →
    (((σ.1 103 57) = 0 →
      (Cv d 273 [.ref 103, .int v2] σ (fun σ3 =>
      (Cv d 272 [.ref 103] σ3 (fun σ4 =>
      Q none σ4))))) ∧
     (¬ (σ.1 103 57) = 0 →
      (Cj d 246 [.ref 103] σ (fun x6 σ5 =>
      (Ci d 278 [.ref 103, .long x6] σ5 (fun x8 σ7 =>
      ((¬ x8 = 0 →
        ((v2 < 0 →
          (Ci d 279 [.ref 103, .long x6] σ7 (fun x10 σ9 =>
          Wq 280 (d + 1) 15 [some (.ref 103), some (.int v1), some (.int x10), some (.int (v3 + (1 : Int32))), none, none] [] σ9 Q))) ∧
         (¬ v2 < 0 →
          (Ci d 279 [.ref 103, .long x6] σ7 (fun x12 σ11 =>
          ((x12 = v2 →
            (Ci d 279 [.ref 103, .long x6] σ11 (fun x14 σ13 =>
            Wq 280 (d + 1) 15 [some (.ref 103), some (.int v1), some (.int x14), some (.int (v3 + (1 : Int32))), none, none] [] σ13 Q))) ∧
           (¬ x12 = v2 →
            (Ci d 279 [.ref 103, .long x6] (sI σ11 103 57 (0 : Int32)) (fun x16 σ15 =>
            Wq 280 (d + 1) 15 [some (.ref 103), some (.int v1), some (.int x16), some (.int (v3 + (1 : Int32))), none, none] [] σ15 Q))))))))) ∧
       (x8 = 0 →
        Q none σ7))))))))))) :
  Wq 280 (d + 1) 15 [some (.ref 103), some (.int v1), some (.int v2), some (.int v3), none, none] [] σ Q := by
  exact fk_run_sound (B := B_M_branches) (C := C_M_branches) (n := 13) ok_M_branches h
def B_M_judgesMore : fkB := [(0, [(.iload_n 1, 1, []), (.bipush 16, 2, []), (.if_icmp .ne 62, 3, [65])]),
  (6, [(.aload_n 0, 1, []), (.invokevirtual 321, 3, [246, 0, 2343, 0, 2, 12]), (.lstore_n 2, 1, []), (.lload_n 2, 1, []), (.aload_n 0, 1, []), (.getfield 32, 3, [12, 8, 1885, 0]), (.aload_n 0, 1, []), (.getfield 293, 3, [12, 38, 1915, 0]), (.iaload, 1, []), (.i2l, 1, []), (.lcmp, 1, []), (.ifCond .lt 11, 3, [34])]),
  (26, [(.aload_n 0, 1, []), (.iconst 0, 1, []), (.putfield 418, 3, [12, 57, 1934, 0]), (.goto 31, 3, [62])]),
  (34, [(.aload_n 0, 1, []), (.bipush 60, 2, []), (.aload_n 0, 1, []), (.getfield 293, 3, [12, 38, 1915, 0]), (.imul, 1, []), (.aload_n 0, 1, []), (.getfield 53, 3, [12, 15, 1892, 0]), (.bipush 60, 2, []), (.aload_n 0, 1, []), (.getfield 293, 3, [12, 38, 1915, 0]), (.imul, 1, []), (.lload_n 2, 1, []), (.l2i, 1, []), (.iadd, 1, []), (.laload, 1, []), (.l2i, 1, []), (.iadd, 1, []), (.invokevirtual 468, 3, [282, 1, 2489, 0, 0, 12])]),
  (62, [(.goto 195, 3, [257])]),
  (65, [(.iload_n 1, 1, []), (.bipush 17, 2, []), (.if_icmp .ne 70, 3, [138])]),
  (71, [(.aload_n 0, 1, []), (.invokevirtual 321, 3, [246, 0, 2343, 0, 2, 12]), (.lstore_n 2, 1, []), (.aload_n 0, 1, []), (.invokevirtual 306, 3, [243, 0, 2331, 0, 1, 12]), (.istore 4, 2, []), (.aload_n 0, 1, []), (.getfield 35, 3, [12, 9, 1886, 0]), (.aload_n 0, 1, []), (.getfield 293, 3, [12, 38, 1915, 0]), (.iaload, 1, []), (.ifCond .eq 18, 3, [109])]),
  (94, [(.lload_n 2, 1, []), (.aload_n 0, 1, []), (.getfield 20, 3, [12, 4, 1881, 0]), (.aload_n 0, 1, []), (.getfield 293, 3, [12, 38, 1915, 0]), (.iaload, 1, []), (.i2l, 1, []), (.lcmp, 1, []), (.ifCond .lt 9, 3, [115])]),
  (109, [(.aload_n 0, 1, []), (.iconst 0, 1, []), (.putfield 418, 3, [12, 57, 1934, 0]), (.return_, 1, [])]),
  (115, [(.aload_n 0, 1, []), (.bipush 127, 2, []), (.invokevirtual 425, 3, [273, 1, 2453, 0, 0, 12]), (.aload_n 0, 1, []), (.bipush 60, 2, []), (.aload_n 0, 1, []), (.getfield 293, 3, [12, 38, 1915, 0]), (.imul, 1, []), (.lload_n 2, 1, []), (.l2i, 1, []), (.iadd, 1, []), (.invokevirtual 468, 3, [282, 1, 2489, 0, 0, 12]), (.goto 122, 3, [257])]),
  (138, [(.iload_n 1, 1, []), (.bipush 26, 2, []), (.if_icmp .ne 11, 3, [152])]),
  (144, [(.aload_n 0, 1, []), (.invokevirtual 422, 3, [274, 0, 2457, 0, 1, 12]), (.istore_n 2, 1, []), (.goto 108, 3, [257])]),
  (152, [(.iload_n 1, 1, []), (.bipush 27, 2, []), (.if_icmp .ne 53, 3, [208])]),
  (158, [(.aload_n 0, 1, []), (.bipush 127, 2, []), (.invokevirtual 425, 3, [273, 1, 2453, 0, 0, 12]), (.aload_n 0, 1, []), (.invokevirtual 422, 3, [274, 0, 2457, 0, 1, 12]), (.istore_n 2, 1, []), (.aload_n 0, 1, []), (.invokevirtual 422, 3, [274, 0, 2457, 0, 1, 12]), (.istore_n 3, 1, []), (.iload_n 2, 1, []), (.ifCond .eq 17, 3, [192])]),
  (178, [(.iload_n 3, 1, []), (.ifCond .eq 13, 3, [192])]),
  (182, [(.iload_n 3, 1, []), (.iload_n 2, 1, []), (.if_icmp .eq 8, 3, [192])]),
  (187, [(.aload_n 0, 1, []), (.iconst 0, 1, []), (.putfield 418, 3, [12, 57, 1934, 0])]),
  (192, [(.aload_n 0, 1, []), (.iload_n 2, 1, []), (.ifCond .ne 7, 3, [201])]),
  (197, [(.iload_n 3, 1, []), (.goto 4, 3, [202])]),
  (201, [(.iload_n 2, 1, [])]),
  (202, [(.invokevirtual 459, 3, [277, 1, 2469, 0, 0, 12]), (.goto 52, 3, [257])]),
  (208, [(.iload_n 1, 1, []), (.bipush 32, 2, []), (.if_icmp .lt 21, 3, [232])]),
  (214, [(.iload_n 1, 1, []), (.bipush 36, 2, []), (.if_icmp .gt 15, 3, [232])]),
  (220, [(.aload_n 0, 1, []), (.iload_n 1, 1, []), (.aload_n 0, 1, []), (.invokevirtual 321, 3, [246, 0, 2343, 0, 2, 12]), (.invokevirtual 471, 3, [283, 2, 2493, 0, 0, 12]), (.goto 28, 3, [257])]),
  (232, [(.iload_n 1, 1, []), (.bipush 40, 2, []), (.if_icmp .lt 17, 3, [252])]),
  (238, [(.iload_n 1, 1, []), (.bipush 64, 2, []), (.if_icmp .gt 11, 3, [252])]),
  (244, [(.aload_n 0, 1, []), (.iload_n 1, 1, []), (.invokevirtual 475, 3, [285, 1, 2501, 0, 0, 12]), (.goto 8, 3, [257])]),
  (252, [(.aload_n 0, 1, []), (.iload_n 1, 1, []), (.invokevirtual 478, 3, [288, 1, 2512, 0, 0, 12])]),
  (257, [(.return_, 1, [])])]
set_option maxRecDepth 100000 in
theorem ok_M_judgesMore : fk_okM 281 B_M_judgesMore = true := by decide +kernel
abbrev C_M_judgesMore : fkC := [(232, [true, true, false, false, false])]
set_option maxRecDepth 100000 in
set_option maxHeartbeats 4000000 in
theorem S_M_judgesMore {d : Nat} {a0 : Int32} {σ : fkS} {Q : Option Value → fkS → Prop} 
  (h : ((¬ a0 = (16 : Int32) →
    ((¬ a0 = (17 : Int32) →
      ((¬ a0 = (26 : Int32) →
        ((¬ a0 = (27 : Int32) →
          ((a0 < (32 : Int32) →
            Wq 281 (d + 1) 232 [some (.ref 103), some (.int a0), none, none, none] [] σ Q) ∧
           (¬ a0 < (32 : Int32) →
            (((36 : Int32) < a0 →
              Wq 281 (d + 1) 232 [some (.ref 103), some (.int a0), none, none, none] [] σ Q) ∧
             (¬ (36 : Int32) < a0 →
              (Cj d 246 [.ref 103] σ (fun x2 σ1 =>
              (Cv d 283 [.ref 103, .int a0, .long x2] σ1 (fun σ3 =>
              Q none σ3))))))))) ∧
         (a0 = (27 : Int32) →
          (Cv d 273 [.ref 103, .int (127 : Int32)] σ (fun σ4 =>
          (Ci d 274 [.ref 103] σ4 (fun x6 σ5 =>
          (Ci d 274 [.ref 103] σ5 (fun x8 σ7 =>
          ((x6 = 0 →
            ((¬ x6 = 0 →
              (Cv d 277 [.ref 103, .int x6] σ7 (fun σ9 =>
              Q none σ9))) ∧
             (x6 = 0 →
              (Cv d 277 [.ref 103, .int x8] σ7 (fun σ10 =>
              Q none σ10))))) ∧
           (¬ x6 = 0 →
            ((x8 = 0 →
              ((¬ x6 = 0 →
                (Cv d 277 [.ref 103, .int x6] σ7 (fun σ11 =>
                Q none σ11))) ∧
               (x6 = 0 →
                (Cv d 277 [.ref 103, .int x8] σ7 (fun σ12 =>
                Q none σ12))))) ∧
             (¬ x8 = 0 →
              ((x8 = x6 →
                ((¬ x6 = 0 →
                  (Cv d 277 [.ref 103, .int x6] σ7 (fun σ13 =>
                  Q none σ13))) ∧
                 (x6 = 0 →
                  (Cv d 277 [.ref 103, .int x8] σ7 (fun σ14 =>
                  Q none σ14))))) ∧
               (¬ x8 = x6 →
                ((¬ x6 = 0 →
                  (Cv d 277 [.ref 103, .int x6] (sI σ7 103 57 (0 : Int32)) (fun σ15 =>
                  Q none σ15))) ∧
                 (x6 = 0 →
                  (Cv d 277 [.ref 103, .int x8] (sI σ7 103 57 (0 : Int32)) (fun σ16 =>
                  Q none σ16))))))))))))))))))) ∧
       (a0 = (26 : Int32) →
        (Ci d 274 [.ref 103] σ (fun x18 σ17 =>
        Q none σ17))))) ∧
     (a0 = (17 : Int32) →
      (Cj d 246 [.ref 103] σ (fun x20 σ19 =>
      (Ci d 243 [.ref 103] σ19 (fun x22 σ21 =>
      (vp_in (σ21.1 103 38) 2 ∧
      (((σ21.1 111 ((σ21.1 103 38).toNatClampNeg)) = 0 →
        Q none (sI σ21 103 57 (0 : Int32))) ∧
       (¬ (σ21.1 111 ((σ21.1 103 38).toNatClampNeg)) = 0 →
        (vp_in (σ21.1 103 38) 2 ∧
        (((lg_cmp x20 ((σ21.1 106 ((σ21.1 103 38).toNatClampNeg)).toInt64)) < 0 →
          (Cv d 273 [.ref 103, .int (127 : Int32)] σ21 (fun σ23 =>
          (Cv d 282 [.ref 103, .int (((60 : Int32) * (σ23.1 103 38)) + x20.toInt32)] σ23 (fun σ24 =>
          Q none σ24))))) ∧
         (¬ (lg_cmp x20 ((σ21.1 106 ((σ21.1 103 38).toNatClampNeg)).toInt64)) < 0 →
          Q none (sI σ21 103 57 (0 : Int32))))))))))))))) ∧
   (a0 = (16 : Int32) →
    (Cj d 246 [.ref 103] σ (fun x26 σ25 =>
    (vp_in (σ25.1 103 38) 2 ∧
    (((lg_cmp x26 ((σ25.1 110 ((σ25.1 103 38).toNatClampNeg)).toInt64)) < 0 →
      (vp_in (((60 : Int32) * (σ25.1 103 38)) + x26.toInt32) 120 ∧
      (Cv d 282 [.ref 103, .int (((60 : Int32) * (σ25.1 103 38)) + ((σ25.2.1 117 ((((60 : Int32) * (σ25.1 103 38)) + x26.toInt32).toNatClampNeg)).toInt32))] σ25 (fun σ27 =>
      Q none σ27)))) ∧
     (¬ (lg_cmp x26 ((σ25.1 110 ((σ25.1 103 38).toNatClampNeg)).toInt64)) < 0 →
      Q none (sI σ25 103 57 (0 : Int32)))))))))) :
  Cl (d + 1) 281 [.ref 103, .int a0] σ Q := by
  exact Cl.run B_M_judgesMore C_M_judgesMore 32 fk_q281 ok_M_judgesMore rfl h
set_option maxRecDepth 100000 in
set_option maxHeartbeats 4000000 in
theorem S_M_judgesMore_232 {d : Nat} {v1 : Int32} {σ : fkS} {Q : Option Value → fkS → Prop} 
  (h : ((v1 < (40 : Int32) →
    (Cv d 288 [.ref 103, .int v1] σ (fun σ1 =>
    Q none σ1))) ∧
   (¬ v1 < (40 : Int32) →
    (((64 : Int32) < v1 →
      (Cv d 288 [.ref 103, .int v1] σ (fun σ2 =>
      Q none σ2))) ∧
     (¬ (64 : Int32) < v1 →
      (Cv d 285 [.ref 103, .int v1] σ (fun σ3 =>
      Q none σ3))))))) :
  Wq 281 (d + 1) 232 [some (.ref 103), some (.int v1), none, none, none] [] σ Q := by
  exact fk_run_sound (B := B_M_judgesMore) (C := C_M_judgesMore) (n := 32) ok_M_judgesMore h
def B_M_calls : fkB := [(0, [(.aload_n 0, 1, []), (.getfield 23, 3, [12, 5, 1882, 0]), (.iload_n 1, 1, []), (.iaload, 1, []), (.iconst 1, 1, []), (.isub, 1, []), (.istore_n 2, 1, [])]),
  (9, [(.iload_n 2, 1, []), (.ifCond .lt 24, 3, [34])]),
  (13, [(.aload_n 0, 1, []), (.aload_n 0, 1, []), (.getfield 26, 3, [12, 6, 1883, 0]), (.bipush 60, 2, []), (.iload_n 1, 1, []), (.imul, 1, []), (.iload_n 2, 1, []), (.iadd, 1, []), (.iaload, 1, []), (.invokevirtual 425, 3, [273, 1, 2453, 0, 0, 12]), (.iinc 2 (-1), 3, []), (.goto (-22), 3, [9])]),
  (34, [(.aload_n 0, 1, []), (.getfield 29, 3, [12, 7, 1884, 0]), (.iload_n 1, 1, []), (.iaload, 1, []), (.ifCond .eq 13, 3, [53])]),
  (43, [(.aload_n 0, 1, []), (.aload_n 0, 1, []), (.getfield 29, 3, [12, 7, 1884, 0]), (.iload_n 1, 1, []), (.iaload, 1, []), (.invokevirtual 459, 3, [277, 1, 2469, 0, 0, 12])]),
  (53, [(.return_, 1, [])])]
set_option maxRecDepth 100000 in
theorem ok_M_calls : fk_okM 282 B_M_calls = true := by decide +kernel
abbrev C_M_calls : fkC := [(9, [true, true, true])]
set_option maxRecDepth 100000 in
set_option maxHeartbeats 4000000 in
theorem S_M_calls {d : Nat} {a0 : Int32} {σ : fkS} {Q : Option Value → fkS → Prop} 
  (h : (vp_in a0 120 ∧
  Wq 282 (d + 1) 9 [some (.ref 103), some (.int a0), some (.int ((σ.1 107 a0.toNatClampNeg) - (1 : Int32)))] [] σ Q)) :
  Cl (d + 1) 282 [.ref 103, .int a0] σ Q := by
  exact Cl.run B_M_calls C_M_calls 9 fk_q282 ok_M_calls rfl h
set_option maxRecDepth 100000 in
set_option maxHeartbeats 4000000 in
theorem S_M_calls_9 {d : Nat} {v1 : Int32} {v2 : Int32} {σ : fkS} {Q : Option Value → fkS → Prop} 
  (h : ((v2 < 0 →
    (vp_in v1 120 ∧
    (((σ.1 109 v1.toNatClampNeg) = 0 →
      Q none σ) ∧
     (¬ (σ.1 109 v1.toNatClampNeg) = 0 →
      (vp_in v1 120 ∧
      (Cv d 277 [.ref 103, .int (σ.1 109 v1.toNatClampNeg)] σ (fun σ1 =>
      Q none σ1))))))) ∧
   (¬ v2 < 0 →
    (vp_in (((60 : Int32) * v1) + v2) 7200 ∧
    (Cv d 273 [.ref 103, .int (σ.1 108 ((((60 : Int32) * v1) + v2).toNatClampNeg))] σ (fun σ2 =>
    Wq 282 (d + 1) 9 [some (.ref 103), some (.int v1), some (.int (v2 + (-1 : Int32)))] [] σ2 Q)))))) :
  Wq 282 (d + 1) 9 [some (.ref 103), some (.int v1), some (.int v2)] [] σ Q := by
  exact fk_run_sound (B := B_M_calls) (C := C_M_calls) (n := 9) ok_M_calls h
def B_M_variables : fkB := [(0, [(.iload_n 1, 1, []), (.bipush 34, 2, []), (.if_icmp .le 48, 3, [51])]),
  (6, [(.lload_n 2, 1, []), (.aload_n 0, 1, []), (.getfield 41, 3, [12, 11, 1888, 0]), (.aload_n 0, 1, []), (.getfield 293, 3, [12, 38, 1915, 0]), (.iaload, 1, []), (.i2l, 1, []), (.lcmp, 1, []), (.ifCond .ge 27, 3, [45])]),
  (21, [(.iload_n 1, 1, []), (.bipush 36, 2, []), (.if_icmp .ne 27, 3, [51])]),
  (27, [(.aload_n 0, 1, []), (.getfield 84, 3, [12, 25, 1902, 0]), (.bipush 60, 2, []), (.aload_n 0, 1, []), (.getfield 293, 3, [12, 38, 1915, 0]), (.imul, 1, []), (.lload_n 2, 1, []), (.l2i, 1, []), (.iadd, 1, []), (.iaload, 1, []), (.ifCond .ne 9, 3, [51])]),
  (45, [(.aload_n 0, 1, []), (.iconst 0, 1, []), (.putfield 418, 3, [12, 57, 1934, 0]), (.return_, 1, [])]),
  (51, [(.iload_n 1, 1, []), (.bipush 34, 2, []), (.if_icmp .le 21, 3, [75])]),
  (57, [(.aload_n 0, 1, []), (.getfield 81, 3, [12, 24, 1901, 0]), (.bipush 60, 2, []), (.aload_n 0, 1, []), (.getfield 293, 3, [12, 38, 1915, 0]), (.imul, 1, []), (.lload_n 2, 1, []), (.l2i, 1, []), (.iadd, 1, []), (.iaload, 1, []), (.goto 8, 3, [80])]),
  (75, [(.aload_n 0, 1, []), (.lload_n 2, 1, []), (.invokevirtual 481, 3, [284, 1, 2497, 0, 1, 12])]),
  (80, [(.istore 4, 2, []), (.iload_n 1, 1, []), (.bipush 33, 2, []), (.if_icmp .eq 15, 3, [100])]),
  (88, [(.iload_n 1, 1, []), (.bipush 34, 2, []), (.if_icmp .eq 9, 3, [100])]),
  (94, [(.iload_n 1, 1, []), (.bipush 36, 2, []), (.if_icmp .ne 9, 3, [106])]),
  (100, [(.aload_n 0, 1, []), (.iload 4, 2, []), (.invokevirtual 425, 3, [273, 1, 2453, 0, 0, 12])]),
  (106, [(.iload_n 1, 1, []), (.bipush 32, 2, []), (.if_icmp .eq 15, 3, [124])]),
  (112, [(.iload_n 1, 1, []), (.bipush 34, 2, []), (.if_icmp .eq 9, 3, [124])]),
  (118, [(.iload_n 1, 1, []), (.bipush 35, 2, []), (.if_icmp .ne 9, 3, [130])]),
  (124, [(.aload_n 0, 1, []), (.iload 4, 2, []), (.invokevirtual 459, 3, [277, 1, 2469, 0, 0, 12])]),
  (130, [(.return_, 1, [])])]
set_option maxRecDepth 100000 in
theorem ok_M_variables : fk_okM 283 B_M_variables = true := by decide +kernel
abbrev C_M_variables : fkC := [(51, [true, true, true, false, false]), (80, [true, true, false, false, false]), (100, [true, true, false, false, true])]
set_option maxRecDepth 100000 in
set_option maxHeartbeats 4000000 in
theorem S_M_variables {d : Nat} {a0 : Int32} {a1 : Int64} {σ : fkS} {Q : Option Value → fkS → Prop} 
  (h : ((a0 ≤ (34 : Int32) →
    Wq 283 (d + 1) 51 [some (.ref 103), some (.int a0), some (.long a1), none, none] [] σ Q) ∧
   (¬ a0 ≤ (34 : Int32) →
    (vp_in (σ.1 103 38) 2 ∧
    ((0 ≤ (lg_cmp a1 ((σ.1 113 ((σ.1 103 38).toNatClampNeg)).toInt64)) →
      Q none (sI σ 103 57 (0 : Int32))) ∧
     (¬ 0 ≤ (lg_cmp a1 ((σ.1 113 ((σ.1 103 38).toNatClampNeg)).toInt64)) →
      ((¬ a0 = (36 : Int32) →
        Wq 283 (d + 1) 51 [some (.ref 103), some (.int a0), some (.long a1), none, none] [] σ Q) ∧
       (a0 = (36 : Int32) →
        (vp_in (((60 : Int32) * (σ.1 103 38)) + a1.toInt32) 120 ∧
        ((¬ (σ.1 127 ((((60 : Int32) * (σ.1 103 38)) + a1.toInt32).toNatClampNeg)) = 0 →
          Wq 283 (d + 1) 51 [some (.ref 103), some (.int a0), some (.long a1), none, none] [] σ Q) ∧
         ((σ.1 127 ((((60 : Int32) * (σ.1 103 38)) + a1.toInt32).toNatClampNeg)) = 0 →
          Q none (sI σ 103 57 (0 : Int32))))))))))))) :
  Cl (d + 1) 283 [.ref 103, .int a0, .long a1] σ Q := by
  exact Cl.run B_M_variables C_M_variables 20 fk_q283 ok_M_variables rfl h
set_option maxRecDepth 100000 in
set_option maxHeartbeats 4000000 in
theorem S_M_variables_51 {d : Nat} {v1 : Int32} {v2 : Int64} {σ : fkS} {Q : Option Value → fkS → Prop} 
  (h : ((v1 ≤ (34 : Int32) →
    (Ci d 284 [.ref 103, .long v2] σ (fun x2 σ1 =>
    Wq 283 (d + 1) 80 [some (.ref 103), some (.int v1), none, none, none] [.int x2] σ1 Q))) ∧
   (¬ v1 ≤ (34 : Int32) →
    (vp_in (((60 : Int32) * (σ.1 103 38)) + v2.toInt32) 120 ∧
    Wq 283 (d + 1) 80 [some (.ref 103), some (.int v1), none, none, none] [.int (σ.1 126 ((((60 : Int32) * (σ.1 103 38)) + v2.toInt32).toNatClampNeg))] σ Q)))) :
  Wq 283 (d + 1) 51 [some (.ref 103), some (.int v1), some (.long v2), none, none] [] σ Q := by
  exact fk_run_sound (B := B_M_variables) (C := C_M_variables) (n := 20) ok_M_variables h
set_option maxRecDepth 100000 in
set_option maxHeartbeats 4000000 in
theorem S_M_variables_80 {d : Nat} {v1 : Int32} {s0 : Int32} {σ : fkS} {Q : Option Value → fkS → Prop} 
  (h : ((v1 = (33 : Int32) →
    Wq 283 (d + 1) 100 [some (.ref 103), some (.int v1), none, none, some (.int s0)] [] σ Q) ∧
   (¬ v1 = (33 : Int32) →
    ((v1 = (34 : Int32) →
      Wq 283 (d + 1) 100 [some (.ref 103), some (.int v1), none, none, some (.int s0)] [] σ Q) ∧
     (¬ v1 = (34 : Int32) →
      ((¬ v1 = (36 : Int32) →
        ((v1 = (32 : Int32) →
          (Cv d 277 [.ref 103, .int s0] σ (fun σ1 =>
          Q none σ1))) ∧
         (¬ v1 = (32 : Int32) →
          ((v1 = (34 : Int32) →
            (Cv d 277 [.ref 103, .int s0] σ (fun σ2 =>
            Q none σ2))) ∧
           (¬ v1 = (34 : Int32) →
            ((¬ v1 = (35 : Int32) →
              Q none σ) ∧
             (v1 = (35 : Int32) →
              (Cv d 277 [.ref 103, .int s0] σ (fun σ3 =>
              Q none σ3))))))))) ∧
       (v1 = (36 : Int32) →
        Wq 283 (d + 1) 100 [some (.ref 103), some (.int v1), none, none, some (.int s0)] [] σ Q))))))) :
  Wq 283 (d + 1) 80 [some (.ref 103), some (.int v1), none, none, none] [.int s0] σ Q := by
  exact fk_run_sound (B := B_M_variables) (C := C_M_variables) (n := 20) ok_M_variables h
set_option maxRecDepth 100000 in
set_option maxHeartbeats 4000000 in
theorem S_M_variables_100 {d : Nat} {v1 : Int32} {v4 : Int32} {σ : fkS} {Q : Option Value → fkS → Prop} 
  (h : (Cv d 273 [.ref 103, .int v4] σ (fun σ1 =>
  ((v1 = (32 : Int32) →
    (Cv d 277 [.ref 103, .int v4] σ1 (fun σ2 =>
    Q none σ2))) ∧
   (¬ v1 = (32 : Int32) →
    ((v1 = (34 : Int32) →
      (Cv d 277 [.ref 103, .int v4] σ1 (fun σ3 =>
      Q none σ3))) ∧
     (¬ v1 = (34 : Int32) →
      ((¬ v1 = (35 : Int32) →
        Q none σ1) ∧
       (v1 = (35 : Int32) →
        (Cv d 277 [.ref 103, .int v4] σ1 (fun σ4 =>
        Q none σ4))))))))))) :
  Wq 283 (d + 1) 100 [some (.ref 103), some (.int v1), none, none, some (.int v4)] [] σ Q := by
  exact fk_run_sound (B := B_M_variables) (C := C_M_variables) (n := 20) ok_M_variables h
def B_M_localType : fkB := [(0, [(.bipush 60, 2, []), (.aload_n 0, 1, []), (.getfield 293, 3, [12, 38, 1915, 0]), (.imul, 1, []), (.aload_n 0, 1, []), (.getfield 428, 3, [12, 55, 1932, 0]), (.iadd, 1, []), (.istore_n 3, 1, []), (.lload_n 1, 1, []), (.aload_n 0, 1, []), (.getfield 23, 3, [12, 5, 1882, 0]), (.aload_n 0, 1, []), (.getfield 430, 3, [12, 56, 1933, 0]), (.iaload, 1, []), (.i2l, 1, []), (.lcmp, 1, []), (.ifCond .ge 19, 3, [44])]),
  (28, [(.aload_n 0, 1, []), (.getfield 26, 3, [12, 6, 1883, 0]), (.bipush 60, 2, []), (.aload_n 0, 1, []), (.getfield 430, 3, [12, 56, 1933, 0]), (.imul, 1, []), (.lload_n 1, 1, []), (.l2i, 1, []), (.iadd, 1, []), (.iaload, 1, []), (.ireturn, 1, [])]),
  (44, [(.lload_n 1, 1, []), (.aload_n 0, 1, []), (.getfield 23, 3, [12, 5, 1882, 0]), (.aload_n 0, 1, []), (.getfield 430, 3, [12, 56, 1933, 0]), (.iaload, 1, []), (.i2l, 1, []), (.lsub, 1, []), (.aload_n 0, 1, []), (.getfield 105, 3, [12, 32, 1909, 0]), (.iload_n 3, 1, []), (.iaload, 1, []), (.i2l, 1, []), (.lcmp, 1, []), (.ifCond .ge 26, 3, [90])]),
  (67, [(.aload_n 0, 1, []), (.getfield 108, 3, [12, 33, 1910, 0]), (.bipush 50, 2, []), (.iload_n 3, 1, []), (.imul, 1, []), (.lload_n 1, 1, []), (.l2i, 1, []), (.iadd, 1, []), (.aload_n 0, 1, []), (.getfield 23, 3, [12, 5, 1882, 0]), (.aload_n 0, 1, []), (.getfield 430, 3, [12, 56, 1933, 0]), (.iaload, 1, []), (.isub, 1, []), (.iaload, 1, []), (.ireturn, 1, [])]),
  (90, [(.aload_n 0, 1, []), (.iconst 0, 1, []), (.putfield 418, 3, [12, 57, 1934, 0]), (.iconst 0, 1, []), (.ireturn, 1, [])])]
set_option maxRecDepth 100000 in
theorem ok_M_localType : fk_okM 284 B_M_localType = true := by decide +kernel
abbrev C_M_localType : fkC := []
set_option maxRecDepth 100000 in
set_option maxHeartbeats 4000000 in
theorem S_M_localType {d : Nat} {a0 : Int64} {σ : fkS} {Q : Option Value → fkS → Prop} 
  (h : (vp_in (σ.1 103 56) 120 ∧
  ((0 ≤ (lg_cmp a0 ((σ.1 107 ((σ.1 103 56).toNatClampNeg)).toInt64)) →
    (vp_in (σ.1 103 56) 120 ∧
    (vp_in (((60 : Int32) * (σ.1 103 38)) + (σ.1 103 55)) 120 ∧
    ((0 ≤ (lg_cmp (a0 - ((σ.1 107 ((σ.1 103 56).toNatClampNeg)).toInt64)) ((σ.1 134 ((((60 : Int32) * (σ.1 103 38)) + (σ.1 103 55)).toNatClampNeg)).toInt64)) →
      Q (some (.int (0 : Int32))) (sI σ 103 57 (0 : Int32))) ∧
     (¬ 0 ≤ (lg_cmp (a0 - ((σ.1 107 ((σ.1 103 56).toNatClampNeg)).toInt64)) ((σ.1 134 ((((60 : Int32) * (σ.1 103 38)) + (σ.1 103 55)).toNatClampNeg)).toInt64)) →
      (vp_in (σ.1 103 56) 120 ∧
      (vp_in ((((50 : Int32) * (((60 : Int32) * (σ.1 103 38)) + (σ.1 103 55))) + a0.toInt32) - (σ.1 107 ((σ.1 103 56).toNatClampNeg))) 6000 ∧
      Q (some (.int (σ.1 135 (((((50 : Int32) * (((60 : Int32) * (σ.1 103 38)) + (σ.1 103 55))) + a0.toInt32) - (σ.1 107 ((σ.1 103 56).toNatClampNeg))).toNatClampNeg)))) σ))))))) ∧
   (¬ 0 ≤ (lg_cmp a0 ((σ.1 107 ((σ.1 103 56).toNatClampNeg)).toInt64)) →
    (vp_in (((60 : Int32) * (σ.1 103 56)) + a0.toInt32) 7200 ∧
    Q (some (.int (σ.1 108 ((((60 : Int32) * (σ.1 103 56)) + a0.toInt32).toNatClampNeg)))) σ))))) :
  Cl d 284 [.ref 103, .long a0] σ Q := by
  exact Cl.run B_M_localType C_M_localType 8 fk_q284 ok_M_localType rfl h
def B_M_memories : fkB := [(0, [(.aload_n 0, 1, []), (.getfield 38, 3, [12, 10, 1887, 0]), (.aload_n 0, 1, []), (.getfield 293, 3, [12, 38, 1915, 0]), (.iaload, 1, []), (.ifCond .ne 8, 3, [17])]),
  (12, [(.aload_n 0, 1, []), (.iconst 0, 1, []), (.putfield 418, 3, [12, 57, 1934, 0])]),
  (17, [(.iload_n 1, 1, []), (.bipush 62, 2, []), (.if_icmp .le 27, 3, [47])]),
  (23, [(.aload_n 0, 1, []), (.invokevirtual 306, 3, [243, 0, 2331, 0, 1, 12]), (.istore_n 2, 1, []), (.iload_n 1, 1, []), (.bipush 64, 2, []), (.if_icmp .ne 9, 3, [40])]),
  (34, [(.aload_n 0, 1, []), (.bipush 127, 2, []), (.invokevirtual 425, 3, [273, 1, 2453, 0, 0, 12])]),
  (40, [(.aload_n 0, 1, []), (.bipush 127, 2, []), (.invokevirtual 459, 3, [277, 1, 2469, 0, 0, 12]), (.return_, 1, [])]),
  (47, [(.aload_n 0, 1, []), (.invokevirtual 321, 3, [246, 0, 2343, 0, 2, 12]), (.lstore_n 2, 1, []), (.aload_n 0, 1, []), (.invokevirtual 321, 3, [246, 0, 2343, 0, 2, 12]), (.lstore 4, 2, []), (.lload_n 2, 1, []), (.ldc2_w 484, 3, [3, 2505]), (.lcmp, 1, []), (.ifCond .gt 14, 3, [77])]),
  (66, [(.iconst 1, 1, []), (.lload_n 2, 1, []), (.l2i, 1, []), (.ishl, 1, []), (.iload_n 1, 1, []), (.invokestatic 486, 3, [286, 1, 2506, 0, 1]), (.if_icmp .le 8, 3, [82])]),
  (77, [(.aload_n 0, 1, []), (.iconst 0, 1, []), (.putfield 418, 3, [12, 57, 1934, 0])]),
  (82, [(.iload_n 1, 1, []), (.bipush 54, 2, []), (.if_icmp .lt 21, 3, [106])]),
  (88, [(.aload_n 0, 1, []), (.iload_n 1, 1, []), (.invokestatic 490, 3, [287, 1, 2509, 0, 1]), (.ifCond .eq 8, 3, [101])]),
  (96, [(.bipush 126, 2, []), (.goto 5, 3, [103])]),
  (101, [(.bipush 127, 2, [])]),
  (103, [(.invokevirtual 425, 3, [273, 1, 2453, 0, 0, 12])]),
  (106, [(.aload_n 0, 1, []), (.bipush 127, 2, []), (.invokevirtual 425, 3, [273, 1, 2453, 0, 0, 12]), (.iload_n 1, 1, []), (.bipush 54, 2, []), (.if_icmp .ge 21, 3, [136])]),
  (118, [(.aload_n 0, 1, []), (.iload_n 1, 1, []), (.invokestatic 490, 3, [287, 1, 2509, 0, 1]), (.ifCond .eq 8, 3, [131])]),
  (126, [(.bipush 126, 2, []), (.goto 5, 3, [133])]),
  (131, [(.bipush 127, 2, [])]),
  (133, [(.invokevirtual 459, 3, [277, 1, 2469, 0, 0, 12])]),
  (136, [(.return_, 1, [])])]
set_option maxRecDepth 100000 in
theorem ok_M_memories : fk_okM 285 B_M_memories = true := by decide +kernel
abbrev C_M_memories : fkC := [(17, [true, true, false, false, false, false]), (77, [true, true, false, false, false, false]), (106, [true, true, false, false, false, false])]
set_option maxRecDepth 100000 in
set_option maxHeartbeats 4000000 in
theorem S_M_memories {d : Nat} {a0 : Int32} {σ : fkS} {Q : Option Value → fkS → Prop} 
  (h : (vp_in (σ.1 103 38) 2 ∧
  ((¬ (σ.1 112 ((σ.1 103 38).toNatClampNeg)) = 0 →
    Wq 285 (d + 1) 17 [some (.ref 103), some (.int a0), none, none, none, none] [] σ Q) ∧
   ((σ.1 112 ((σ.1 103 38).toNatClampNeg)) = 0 →
    Wq 285 (d + 1) 17 [some (.ref 103), some (.int a0), none, none, none, none] [] (sI σ 103 57 (0 : Int32)) Q)))) :
  Cl (d + 1) 285 [.ref 103, .int a0] σ Q := by
  exact Cl.run B_M_memories C_M_memories 23 fk_q285 ok_M_memories rfl h
set_option maxRecDepth 100000 in
set_option maxHeartbeats 4000000 in
theorem S_M_memories_17 {d : Nat} {v1 : Int32} {σ : fkS} {Q : Option Value → fkS → Prop} 
  (h : ((v1 ≤ (62 : Int32) →
    (Cj d 246 [.ref 103] σ (fun x2 σ1 =>
    (Cj d 246 [.ref 103] σ1 (fun x4 σ3 =>
    ((0 < (lg_cmp x2 (3 : Int64)) →
      Wq 285 (d + 1) 77 [some (.ref 103), some (.int v1), none, none, none, none] [] σ3 Q) ∧
     (¬ 0 < (lg_cmp x2 (3 : Int64)) →
      (Ci d 286 [.int v1] σ3 (fun x6 σ5 =>
      ((((1 : Int32) <<< (x2.toInt32 &&& 31)) ≤ x6 →
        ((v1 < (54 : Int32) →
          Wq 285 (d + 1) 106 [some (.ref 103), some (.int v1), none, none, none, none] [] σ5 Q) ∧
         (¬ v1 < (54 : Int32) →
          (Ci d 287 [.int v1] σ5 (fun x8 σ7 =>
          ((x8 = 0 →
            (Cv d 273 [.ref 103, .int (127 : Int32)] σ7 (fun σ9 =>
            Wq 285 (d + 1) 106 [some (.ref 103), some (.int v1), none, none, none, none] [] σ9 Q))) ∧
           (¬ x8 = 0 →
            (Cv d 273 [.ref 103, .int (126 : Int32)] σ7 (fun σ10 =>
            Wq 285 (d + 1) 106 [some (.ref 103), some (.int v1), none, none, none, none] [] σ10 Q))))))))) ∧
       (¬ ((1 : Int32) <<< (x2.toInt32 &&& 31)) ≤ x6 →
        Wq 285 (d + 1) 77 [some (.ref 103), some (.int v1), none, none, none, none] [] σ5 Q))))))))))) ∧
   (¬ v1 ≤ (62 : Int32) →
    (Ci d 243 [.ref 103] σ (fun x12 σ11 =>
    ((¬ v1 = (64 : Int32) →
      (Cv d 277 [.ref 103, .int (127 : Int32)] σ11 (fun σ13 =>
      Q none σ13))) ∧
     (v1 = (64 : Int32) →
      (Cv d 273 [.ref 103, .int (127 : Int32)] σ11 (fun σ14 =>
      (Cv d 277 [.ref 103, .int (127 : Int32)] σ14 (fun σ15 =>
      Q none σ15))))))))))) :
  Wq 285 (d + 1) 17 [some (.ref 103), some (.int v1), none, none, none, none] [] σ Q := by
  exact fk_run_sound (B := B_M_memories) (C := C_M_memories) (n := 23) ok_M_memories h
set_option maxRecDepth 100000 in
set_option maxHeartbeats 4000000 in
theorem S_M_memories_77 {d : Nat} {v1 : Int32} {σ : fkS} {Q : Option Value → fkS → Prop} 
  (h : ((v1 < (54 : Int32) →
    Wq 285 (d + 1) 106 [some (.ref 103), some (.int v1), none, none, none, none] [] (sI σ 103 57 (0 : Int32)) Q) ∧
   (¬ v1 < (54 : Int32) →
    (Ci d 287 [.int v1] (sI σ 103 57 (0 : Int32)) (fun x2 σ1 =>
    ((x2 = 0 →
      (Cv d 273 [.ref 103, .int (127 : Int32)] σ1 (fun σ3 =>
      Wq 285 (d + 1) 106 [some (.ref 103), some (.int v1), none, none, none, none] [] σ3 Q))) ∧
     (¬ x2 = 0 →
      (Cv d 273 [.ref 103, .int (126 : Int32)] σ1 (fun σ4 =>
      Wq 285 (d + 1) 106 [some (.ref 103), some (.int v1), none, none, none, none] [] σ4 Q))))))))) :
  Wq 285 (d + 1) 77 [some (.ref 103), some (.int v1), none, none, none, none] [] σ Q := by
  exact fk_run_sound (B := B_M_memories) (C := C_M_memories) (n := 23) ok_M_memories h
set_option maxRecDepth 100000 in
set_option maxHeartbeats 4000000 in
theorem S_M_memories_106 {d : Nat} {v1 : Int32} {σ : fkS} {Q : Option Value → fkS → Prop} 
  (h : (Cv d 273 [.ref 103, .int (127 : Int32)] σ (fun σ1 =>
  (((54 : Int32) ≤ v1 →
    Q none σ1) ∧
   (¬ (54 : Int32) ≤ v1 →
    (Ci d 287 [.int v1] σ1 (fun x3 σ2 =>
    ((x3 = 0 →
      (Cv d 277 [.ref 103, .int (127 : Int32)] σ2 (fun σ4 =>
      Q none σ4))) ∧
     (¬ x3 = 0 →
      (Cv d 277 [.ref 103, .int (126 : Int32)] σ2 (fun σ5 =>
      Q none σ5))))))))))) :
  Wq 285 (d + 1) 106 [some (.ref 103), some (.int v1), none, none, none, none] [] σ Q := by
  exact fk_run_sound (B := B_M_memories) (C := C_M_memories) (n := 23) ok_M_memories h
def B_M_bytesOf : fkB := [(0, [(.iload_n 0, 1, []), (.tableswitch 114 40 62 #[107, 109, 114, 114, 114, 114, 112, 112, 114, 114, 112, 112, 107, 107, 107, 109, 114, 114, 114, 112, 114, 112, 107], 107, [115, 108, 110, 115, 115, 115, 115, 113, 113, 115, 115, 113, 113, 108, 108, 108, 110, 115, 115, 115, 113, 115, 113, 108])]),
  (108, [(.iconst 4, 1, []), (.ireturn, 1, [])]),
  (110, [(.bipush 8, 2, []), (.ireturn, 1, [])]),
  (113, [(.iconst 2, 1, []), (.ireturn, 1, [])]),
  (115, [(.iconst 1, 1, []), (.ireturn, 1, [])])]
set_option maxRecDepth 100000 in
theorem ok_M_bytesOf : fk_okM 286 B_M_bytesOf = true := by decide +kernel
abbrev C_M_bytesOf : fkC := []
set_option maxRecDepth 100000 in
set_option maxHeartbeats 4000000 in
theorem S_M_bytesOf {d : Nat} {a0 : Int32} {σ : fkS} {Q : Option Value → fkS → Prop} 
  (h : (((a0.toInt < 40 ∨ 62 < a0.toInt) →
    Q (some (.int (1 : Int32))) σ) ∧
   (a0.toInt = 40 →
    Q (some (.int (4 : Int32))) σ) ∧
   (a0.toInt = 41 →
    Q (some (.int (8 : Int32))) σ) ∧
   (a0.toInt = 42 →
    Q (some (.int (1 : Int32))) σ) ∧
   (a0.toInt = 43 →
    Q (some (.int (1 : Int32))) σ) ∧
   (a0.toInt = 44 →
    Q (some (.int (1 : Int32))) σ) ∧
   (a0.toInt = 45 →
    Q (some (.int (1 : Int32))) σ) ∧
   (a0.toInt = 46 →
    Q (some (.int (2 : Int32))) σ) ∧
   (a0.toInt = 47 →
    Q (some (.int (2 : Int32))) σ) ∧
   (a0.toInt = 48 →
    Q (some (.int (1 : Int32))) σ) ∧
   (a0.toInt = 49 →
    Q (some (.int (1 : Int32))) σ) ∧
   (a0.toInt = 50 →
    Q (some (.int (2 : Int32))) σ) ∧
   (a0.toInt = 51 →
    Q (some (.int (2 : Int32))) σ) ∧
   (a0.toInt = 52 →
    Q (some (.int (4 : Int32))) σ) ∧
   (a0.toInt = 53 →
    Q (some (.int (4 : Int32))) σ) ∧
   (a0.toInt = 54 →
    Q (some (.int (4 : Int32))) σ) ∧
   (a0.toInt = 55 →
    Q (some (.int (8 : Int32))) σ) ∧
   (a0.toInt = 56 →
    Q (some (.int (1 : Int32))) σ) ∧
   (a0.toInt = 57 →
    Q (some (.int (1 : Int32))) σ) ∧
   (a0.toInt = 58 →
    Q (some (.int (1 : Int32))) σ) ∧
   (a0.toInt = 59 →
    Q (some (.int (2 : Int32))) σ) ∧
   (a0.toInt = 60 →
    Q (some (.int (1 : Int32))) σ) ∧
   (a0.toInt = 61 →
    Q (some (.int (2 : Int32))) σ) ∧
   (a0.toInt = 62 →
    Q (some (.int (4 : Int32))) σ) ∧ True)) :
  Cl d 286 [.int a0] σ Q := by
  exact Cl.run B_M_bytesOf C_M_bytesOf 8 fk_q286 ok_M_bytesOf rfl h
def B_M_isWide : fkB := [(0, [(.iload_n 0, 1, []), (.bipush 41, 2, []), (.if_icmp .eq 33, 3, [36])]),
  (6, [(.iload_n 0, 1, []), (.bipush 48, 2, []), (.if_icmp .lt 9, 3, [18])]),
  (12, [(.iload_n 0, 1, []), (.bipush 53, 2, []), (.if_icmp .le 21, 3, [36])]),
  (18, [(.iload_n 0, 1, []), (.bipush 55, 2, []), (.if_icmp .eq 15, 3, [36])]),
  (24, [(.iload_n 0, 1, []), (.bipush 60, 2, []), (.if_icmp .lt 13, 3, [40])]),
  (30, [(.iload_n 0, 1, []), (.bipush 62, 2, []), (.if_icmp .gt 7, 3, [40])]),
  (36, [(.iconst 1, 1, []), (.goto 4, 3, [41])]),
  (40, [(.iconst 0, 1, [])]),
  (41, [(.ireturn, 1, [])])]
set_option maxRecDepth 100000 in
theorem ok_M_isWide : fk_okM 287 B_M_isWide = true := by decide +kernel
abbrev C_M_isWide : fkC := []
set_option maxRecDepth 100000 in
set_option maxHeartbeats 4000000 in
theorem S_M_isWide {d : Nat} {a0 : Int32} {σ : fkS} {Q : Option Value → fkS → Prop} 
  (h : ((a0 = (41 : Int32) →
    Q (some (.int (1 : Int32))) σ) ∧
   (¬ a0 = (41 : Int32) →
    ((a0 < (48 : Int32) →
      ((a0 = (55 : Int32) →
        Q (some (.int (1 : Int32))) σ) ∧
       (¬ a0 = (55 : Int32) →
        ((a0 < (60 : Int32) →
          Q (some (.int (0 : Int32))) σ) ∧
         (¬ a0 < (60 : Int32) →
          (((62 : Int32) < a0 →
            Q (some (.int (0 : Int32))) σ) ∧
           (¬ (62 : Int32) < a0 →
            Q (some (.int (1 : Int32))) σ))))))) ∧
     (¬ a0 < (48 : Int32) →
      ((a0 ≤ (53 : Int32) →
        Q (some (.int (1 : Int32))) σ) ∧
       (¬ a0 ≤ (53 : Int32) →
        ((a0 = (55 : Int32) →
          Q (some (.int (1 : Int32))) σ) ∧
         (¬ a0 = (55 : Int32) →
          ((a0 < (60 : Int32) →
            Q (some (.int (0 : Int32))) σ) ∧
           (¬ a0 < (60 : Int32) →
            (((62 : Int32) < a0 →
              Q (some (.int (0 : Int32))) σ) ∧
             (¬ (62 : Int32) < a0 →
              Q (some (.int (1 : Int32))) σ))))))))))))) :
  Cl d 287 [.int a0] σ Q := by
  exact Cl.run B_M_isWide C_M_isWide 12 fk_q287 ok_M_isWide rfl h
def B_M_numbers : fkB := [(0, [(.iload_n 1, 1, []), (.bipush 65, 2, []), (.if_icmp .eq 9, 3, [12])]),
  (6, [(.iload_n 1, 1, []), (.bipush 66, 2, []), (.if_icmp .ne 39, 3, [48])]),
  (12, [(.aload_n 0, 1, []), (.iload_n 1, 1, []), (.bipush 65, 2, []), (.if_icmp .ne 8, 3, [24])]),
  (19, [(.bipush 32, 2, []), (.goto 5, 3, [26])]),
  (24, [(.bipush 64, 2, [])]),
  (26, [(.invokevirtual 380, 3, [257, 1, 2388, 0, 2, 12]), (.lstore_n 2, 1, []), (.aload_n 0, 1, []), (.iload_n 1, 1, []), (.bipush 65, 2, []), (.if_icmp .ne 8, 3, [42])]),
  (37, [(.bipush 127, 2, []), (.goto 5, 3, [44])]),
  (42, [(.bipush 126, 2, [])]),
  (44, [(.invokevirtual 459, 3, [277, 1, 2469, 0, 0, 12]), (.return_, 1, [])]),
  (48, [(.iload_n 1, 1, []), (.bipush 80, 2, []), (.if_icmp .lt 9, 3, [60])]),
  (54, [(.iload_n 1, 1, []), (.bipush 90, 2, []), (.if_icmp .le 16, 3, [73])]),
  (60, [(.iload_n 1, 1, []), (.bipush 121, 2, []), (.if_icmp .lt 14, 3, [77])]),
  (66, [(.iload_n 1, 1, []), (.sipush 138, 3, []), (.if_icmp .gt 7, 3, [77])]),
  (73, [(.iconst 1, 1, []), (.goto 4, 3, [78])]),
  (77, [(.iconst 0, 1, [])]),
  (78, [(.istore_n 2, 1, []), (.iload_n 2, 1, []), (.ifCond .eq 8, 3, [88])]),
  (83, [(.bipush 126, 2, []), (.goto 5, 3, [90])]),
  (88, [(.bipush 127, 2, [])]),
  (90, [(.istore_n 3, 1, []), (.iload_n 1, 1, []), (.sipush 167, 3, []), (.if_icmp .eq 17, 3, [112])]),
  (98, [(.iload_n 1, 1, []), (.sipush 172, 3, []), (.if_icmp .eq 10, 3, [112])]),
  (105, [(.iload_n 1, 1, []), (.sipush 173, 3, []), (.if_icmp .ne 40, 3, [149])]),
  (112, [(.aload_n 0, 1, []), (.iload_n 1, 1, []), (.sipush 167, 3, []), (.if_icmp .ne 8, 3, [125])]),
  (120, [(.bipush 126, 2, []), (.goto 5, 3, [127])]),
  (125, [(.bipush 127, 2, [])]),
  (127, [(.invokevirtual 425, 3, [273, 1, 2453, 0, 0, 12]), (.aload_n 0, 1, []), (.iload_n 1, 1, []), (.sipush 167, 3, []), (.if_icmp .ne 8, 3, [143])]),
  (138, [(.bipush 127, 2, []), (.goto 5, 3, [145])]),
  (143, [(.bipush 126, 2, [])]),
  (145, [(.invokevirtual 459, 3, [277, 1, 2469, 0, 0, 12]), (.return_, 1, [])]),
  (149, [(.iload_n 1, 1, []), (.bipush 69, 2, []), (.if_icmp .eq 33, 3, [185])]),
  (155, [(.iload_n 1, 1, []), (.bipush 80, 2, []), (.if_icmp .eq 27, 3, [185])]),
  (161, [(.iload_n 1, 1, []), (.bipush 103, 2, []), (.if_icmp .lt 9, 3, [173])]),
  (167, [(.iload_n 1, 1, []), (.bipush 105, 2, []), (.if_icmp .le 15, 3, [185])]),
  (173, [(.iload_n 1, 1, []), (.bipush 121, 2, []), (.if_icmp .lt 13, 3, [189])]),
  (179, [(.iload_n 1, 1, []), (.bipush 123, 2, []), (.if_icmp .gt 7, 3, [189])]),
  (185, [(.iconst 1, 1, []), (.goto 4, 3, [190])]),
  (189, [(.iconst 0, 1, [])]),
  (190, [(.istore 4, 2, []), (.aload_n 0, 1, []), (.iload_n 3, 1, []), (.invokevirtual 425, 3, [273, 1, 2453, 0, 0, 12]), (.iload 4, 2, []), (.ifCond .ne 8, 3, [207])]),
  (202, [(.aload_n 0, 1, []), (.iload_n 3, 1, []), (.invokevirtual 425, 3, [273, 1, 2453, 0, 0, 12])]),
  (207, [(.aload_n 0, 1, []), (.iload_n 1, 1, []), (.bipush 90, 2, []), (.if_icmp .gt 8, 3, [219])]),
  (214, [(.bipush 127, 2, []), (.goto 4, 3, [220])]),
  (219, [(.iload_n 3, 1, [])]),
  (220, [(.invokevirtual 459, 3, [277, 1, 2469, 0, 0, 12]), (.return_, 1, [])])]
set_option maxRecDepth 100000 in
theorem ok_M_numbers : fk_okM 288 B_M_numbers = true := by decide +kernel
abbrev C_M_numbers : fkC := [(12, [true, true, false, false, false]), (60, [true, true, false, false, false]), (90, [true, true, false, false, false]), (112, [true, true, false, false, false]), (190, [true, true, false, true, false])]
set_option maxRecDepth 100000 in
set_option maxHeartbeats 4000000 in
theorem S_M_numbers {d : Nat} {a0 : Int32} {σ : fkS} {Q : Option Value → fkS → Prop} 
  (h : ((a0 = (65 : Int32) →
    Wq 288 (d + 1) 12 [some (.ref 103), some (.int a0), none, none, none] [] σ Q) ∧
   (¬ a0 = (65 : Int32) →
    ((¬ a0 = (66 : Int32) →
      ((a0 < (80 : Int32) →
        Wq 288 (d + 1) 60 [some (.ref 103), some (.int a0), none, none, none] [] σ Q) ∧
       (¬ a0 < (80 : Int32) →
        ((a0 ≤ (90 : Int32) →
          (((1 : Int32) = 0 →
            Wq 288 (d + 1) 90 [some (.ref 103), some (.int a0), none, none, none] [.int (127 : Int32)] σ Q) ∧
           (¬ (1 : Int32) = 0 →
            Wq 288 (d + 1) 90 [some (.ref 103), some (.int a0), none, none, none] [.int (126 : Int32)] σ Q))) ∧
         (¬ a0 ≤ (90 : Int32) →
          Wq 288 (d + 1) 60 [some (.ref 103), some (.int a0), none, none, none] [] σ Q))))) ∧
     (a0 = (66 : Int32) →
      Wq 288 (d + 1) 12 [some (.ref 103), some (.int a0), none, none, none] [] σ Q))))) :
  Cl (d + 1) 288 [.ref 103, .int a0] σ Q := by
  exact Cl.run B_M_numbers C_M_numbers 45 fk_q288 ok_M_numbers rfl h
set_option maxRecDepth 100000 in
set_option maxHeartbeats 4000000 in
theorem S_M_numbers_12 {d : Nat} {v1 : Int32} {σ : fkS} {Q : Option Value → fkS → Prop} 
  (h : ((¬ v1 = (65 : Int32) →
    (Cj d 257 [.ref 103, .int (64 : Int32)] σ (fun x2 σ1 =>
    ((¬ v1 = (65 : Int32) →
      (Cv d 277 [.ref 103, .int (126 : Int32)] σ1 (fun σ3 =>
      Q none σ3))) ∧
     (v1 = (65 : Int32) →
      (Cv d 277 [.ref 103, .int (127 : Int32)] σ1 (fun σ4 =>
      Q none σ4))))))) ∧
   (v1 = (65 : Int32) →
    (Cj d 257 [.ref 103, .int (32 : Int32)] σ (fun x6 σ5 =>
    ((¬ v1 = (65 : Int32) →
      (Cv d 277 [.ref 103, .int (126 : Int32)] σ5 (fun σ7 =>
      Q none σ7))) ∧
     (v1 = (65 : Int32) →
      (Cv d 277 [.ref 103, .int (127 : Int32)] σ5 (fun σ8 =>
      Q none σ8))))))))) :
  Wq 288 (d + 1) 12 [some (.ref 103), some (.int v1), none, none, none] [] σ Q := by
  exact fk_run_sound (B := B_M_numbers) (C := C_M_numbers) (n := 45) ok_M_numbers h
set_option maxRecDepth 100000 in
set_option maxHeartbeats 4000000 in
theorem S_M_numbers_60 {d : Nat} {v1 : Int32} {σ : fkS} {Q : Option Value → fkS → Prop} 
  (h : ((v1 < (121 : Int32) →
    (((0 : Int32) = 0 →
      Wq 288 (d + 1) 90 [some (.ref 103), some (.int v1), none, none, none] [.int (127 : Int32)] σ Q) ∧
     (¬ (0 : Int32) = 0 →
      Wq 288 (d + 1) 90 [some (.ref 103), some (.int v1), none, none, none] [.int (126 : Int32)] σ Q))) ∧
   (¬ v1 < (121 : Int32) →
    (((138 : Int32) < v1 →
      (((0 : Int32) = 0 →
        Wq 288 (d + 1) 90 [some (.ref 103), some (.int v1), none, none, none] [.int (127 : Int32)] σ Q) ∧
       (¬ (0 : Int32) = 0 →
        Wq 288 (d + 1) 90 [some (.ref 103), some (.int v1), none, none, none] [.int (126 : Int32)] σ Q))) ∧
     (¬ (138 : Int32) < v1 →
      (((1 : Int32) = 0 →
        Wq 288 (d + 1) 90 [some (.ref 103), some (.int v1), none, none, none] [.int (127 : Int32)] σ Q) ∧
       (¬ (1 : Int32) = 0 →
        Wq 288 (d + 1) 90 [some (.ref 103), some (.int v1), none, none, none] [.int (126 : Int32)] σ Q))))))) :
  Wq 288 (d + 1) 60 [some (.ref 103), some (.int v1), none, none, none] [] σ Q := by
  exact fk_run_sound (B := B_M_numbers) (C := C_M_numbers) (n := 45) ok_M_numbers h
set_option maxRecDepth 100000 in
set_option maxHeartbeats 4000000 in
theorem S_M_numbers_90 {d : Nat} {v1 : Int32} {s0 : Int32} {σ : fkS} {Q : Option Value → fkS → Prop} 
  (h : ((v1 = (167 : Int32) →
    Wq 288 (d + 1) 112 [some (.ref 103), some (.int v1), none, none, none] [] σ Q) ∧
   (¬ v1 = (167 : Int32) →
    ((v1 = (172 : Int32) →
      Wq 288 (d + 1) 112 [some (.ref 103), some (.int v1), none, none, none] [] σ Q) ∧
     (¬ v1 = (172 : Int32) →
      ((¬ v1 = (173 : Int32) →
        ((v1 = (69 : Int32) →
          Wq 288 (d + 1) 190 [some (.ref 103), some (.int v1), none, some (.int s0), none] [.int (1 : Int32)] σ Q) ∧
         (¬ v1 = (69 : Int32) →
          ((v1 = (80 : Int32) →
            Wq 288 (d + 1) 190 [some (.ref 103), some (.int v1), none, some (.int s0), none] [.int (1 : Int32)] σ Q) ∧
           (¬ v1 = (80 : Int32) →
            ((v1 < (103 : Int32) →
              ((v1 < (121 : Int32) →
                Wq 288 (d + 1) 190 [some (.ref 103), some (.int v1), none, some (.int s0), none] [.int (0 : Int32)] σ Q) ∧
               (¬ v1 < (121 : Int32) →
                (((123 : Int32) < v1 →
                  Wq 288 (d + 1) 190 [some (.ref 103), some (.int v1), none, some (.int s0), none] [.int (0 : Int32)] σ Q) ∧
                 (¬ (123 : Int32) < v1 →
                  Wq 288 (d + 1) 190 [some (.ref 103), some (.int v1), none, some (.int s0), none] [.int (1 : Int32)] σ Q))))) ∧
             (¬ v1 < (103 : Int32) →
              ((v1 ≤ (105 : Int32) →
                Wq 288 (d + 1) 190 [some (.ref 103), some (.int v1), none, some (.int s0), none] [.int (1 : Int32)] σ Q) ∧
               (¬ v1 ≤ (105 : Int32) →
                ((v1 < (121 : Int32) →
                  Wq 288 (d + 1) 190 [some (.ref 103), some (.int v1), none, some (.int s0), none] [.int (0 : Int32)] σ Q) ∧
                 (¬ v1 < (121 : Int32) →
                  (((123 : Int32) < v1 →
                    Wq 288 (d + 1) 190 [some (.ref 103), some (.int v1), none, some (.int s0), none] [.int (0 : Int32)] σ Q) ∧
                   (¬ (123 : Int32) < v1 →
                    Wq 288 (d + 1) 190 [some (.ref 103), some (.int v1), none, some (.int s0), none] [.int (1 : Int32)] σ Q))))))))))))) ∧
       (v1 = (173 : Int32) →
        Wq 288 (d + 1) 112 [some (.ref 103), some (.int v1), none, none, none] [] σ Q))))))) :
  Wq 288 (d + 1) 90 [some (.ref 103), some (.int v1), none, none, none] [.int s0] σ Q := by
  exact fk_run_sound (B := B_M_numbers) (C := C_M_numbers) (n := 45) ok_M_numbers h
set_option maxRecDepth 100000 in
set_option maxHeartbeats 4000000 in
theorem S_M_numbers_112 {d : Nat} {v1 : Int32} {σ : fkS} {Q : Option Value → fkS → Prop} 
  (h : ((¬ v1 = (167 : Int32) →
    (Cv d 273 [.ref 103, .int (127 : Int32)] σ (fun σ1 =>
    ((¬ v1 = (167 : Int32) →
      (Cv d 277 [.ref 103, .int (126 : Int32)] σ1 (fun σ2 =>
      Q none σ2))) ∧
     (v1 = (167 : Int32) →
      (Cv d 277 [.ref 103, .int (127 : Int32)] σ1 (fun σ3 =>
      Q none σ3))))))) ∧
   (v1 = (167 : Int32) →
    (Cv d 273 [.ref 103, .int (126 : Int32)] σ (fun σ4 =>
    ((¬ v1 = (167 : Int32) →
      (Cv d 277 [.ref 103, .int (126 : Int32)] σ4 (fun σ5 =>
      Q none σ5))) ∧
     (v1 = (167 : Int32) →
      (Cv d 277 [.ref 103, .int (127 : Int32)] σ4 (fun σ6 =>
      Q none σ6))))))))) :
  Wq 288 (d + 1) 112 [some (.ref 103), some (.int v1), none, none, none] [] σ Q := by
  exact fk_run_sound (B := B_M_numbers) (C := C_M_numbers) (n := 45) ok_M_numbers h
set_option maxRecDepth 100000 in
set_option maxHeartbeats 4000000 in
theorem S_M_numbers_190 {d : Nat} {v1 : Int32} {v3 : Int32} {s0 : Int32} {σ : fkS} {Q : Option Value → fkS → Prop} 
  (h : (Cv d 273 [.ref 103, .int v3] σ (fun σ1 =>
  ((¬ s0 = 0 →
    (((90 : Int32) < v1 →
      (Cv d 277 [.ref 103, .int v3] σ1 (fun σ2 =>
      Q none σ2))) ∧
     (¬ (90 : Int32) < v1 →
      (Cv d 277 [.ref 103, .int (127 : Int32)] σ1 (fun σ3 =>
      Q none σ3))))) ∧
   (s0 = 0 →
    (Cv d 273 [.ref 103, .int v3] σ1 (fun σ4 =>
    (((90 : Int32) < v1 →
      (Cv d 277 [.ref 103, .int v3] σ4 (fun σ5 =>
      Q none σ5))) ∧
     (¬ (90 : Int32) < v1 →
      (Cv d 277 [.ref 103, .int (127 : Int32)] σ4 (fun σ6 =>
      Q none σ6))))))))))) :
  Wq 288 (d + 1) 190 [some (.ref 103), some (.int v1), none, some (.int v3), none] [.int s0] σ Q := by
  exact fk_run_sound (B := B_M_numbers) (C := C_M_numbers) (n := 45) ok_M_numbers h
