/-! THE WALKS of the methods as predicates, by program (wip/whole/gen/gen_S.py). Cells: wip/whole/gen/cells.py prints them. -/
-- not here: 
def B_M_feed : fkB := [(0, [(.aload_n 0, 1, []), (.getfield 280, 3, [12, 1, 1878, 0]), (.bipush 20, 2, []), (.iadd, 1, []), (.sipush 4000, 3, []), (.if_icmp .le 5, 3, [15])]),
  (13, [(.iconst (-1), 1, []), (.ireturn, 1, [])]),
  (15, [(.aload_n 0, 1, []), (.iload_n 1, 1, []), (.invokevirtual 283, 3, [238, 1, 2311, 0, 0, 12]), (.aload_n 0, 1, []), (.iload_n 2, 1, []), (.invokevirtual 283, 3, [238, 1, 2311, 0, 0, 12]), (.aload_n 0, 1, []), (.iload_n 3, 1, []), (.invokevirtual 283, 3, [238, 1, 2311, 0, 0, 12]), (.aload_n 0, 1, []), (.iload 4, 2, []), (.invokevirtual 283, 3, [238, 1, 2311, 0, 0, 12]), (.aload_n 0, 1, []), (.iload 5, 2, []), (.invokevirtual 283, 3, [238, 1, 2311, 0, 0, 12]), (.aload_n 0, 1, []), (.getfield 280, 3, [12, 1, 1878, 0]), (.ireturn, 1, [])])]
set_option maxRecDepth 100000 in
theorem ok_M_feed : fk_okM 237 B_M_feed = true := by decide +kernel
abbrev C_M_feed : fkC := []
set_option maxRecDepth 100000 in
set_option maxHeartbeats 4000000 in
theorem S_M_feed {d : Nat} {a0 : Int32} {a1 : Int32} {a2 : Int32} {a3 : Int32} {a4 : Int32} {σ : fkS} {Q : Option Value → fkS → Prop} 
  (h : ((((σ.1 103 1) + (20 : Int32)) ≤ (4000 : Int32) →
    (Cv d 238 [.ref 103, .int a0] σ (fun σ1 =>
    (Cv d 238 [.ref 103, .int a1] σ1 (fun σ2 =>
    (Cv d 238 [.ref 103, .int a2] σ2 (fun σ3 =>
    (Cv d 238 [.ref 103, .int a3] σ3 (fun σ4 =>
    (Cv d 238 [.ref 103, .int a4] σ4 (fun σ5 =>
    Q (some (.int (σ5.1 103 1))) σ5))))))))))) ∧
   (¬ ((σ.1 103 1) + (20 : Int32)) ≤ (4000 : Int32) →
    Q (some (.int (-1 : Int32))) σ))) :
  Cl (d + 1) 237 [.ref 103, .int a0, .int a1, .int a2, .int a3, .int a4] σ Q := by
  exact Cl.run B_M_feed C_M_feed 6 fk_q237 ok_M_feed rfl h
def B_M_feeds : fkB := [(0, [(.iconst 3, 1, []), (.istore_n 2, 1, [])]),
  (2, [(.iload_n 2, 1, []), (.ifCond .lt 38, 3, [41])]),
  (6, [(.aload_n 0, 1, []), (.getfield 9, 3, [12, 0, 1877, 0]), (.aload_n 0, 1, []), (.getfield 280, 3, [12, 1, 1878, 0]), (.iload_n 1, 1, []), (.bipush 8, 2, []), (.iload_n 2, 1, []), (.imul, 1, []), (.ishr, 1, []), (.sipush 255, 3, []), (.iand, 1, []), (.iastore, 1, []), (.aload_n 0, 1, []), (.dup, 1, []), (.getfield 280, 3, [12, 1, 1878, 0]), (.iconst 1, 1, []), (.iadd, 1, []), (.putfield 280, 3, [12, 1, 1878, 0]), (.iinc 2 (-1), 3, []), (.goto (-36), 3, [2])]),
  (41, [(.return_, 1, [])])]
set_option maxRecDepth 100000 in
theorem ok_M_feeds : fk_okM 238 B_M_feeds = true := by decide +kernel
abbrev C_M_feeds : fkC := [(2, [true, true, true])]
set_option maxRecDepth 100000 in
set_option maxHeartbeats 4000000 in
theorem S_M_feeds {d : Nat} {a0 : Int32} {σ : fkS} {Q : Option Value → fkS → Prop} 
  (h : Wq 238 d 2 [some (.ref 103), some (.int a0), some (.int (3 : Int32))] [] σ Q) :
  Cl d 238 [.ref 103, .int a0] σ Q := by
  exact Cl.run B_M_feeds C_M_feeds 7 fk_q238 ok_M_feeds rfl h
set_option maxRecDepth 100000 in
set_option maxHeartbeats 4000000 in
theorem S_M_feeds_2 {d : Nat} {v1 : Int32} {v2 : Int32} {σ : fkS} {Q : Option Value → fkS → Prop} 
  (h : ((v2 < 0 →
    Q none σ) ∧
   (¬ v2 < 0 →
    (vp_in (σ.1 103 1) 4000 ∧
    Wq 238 d 2 [some (.ref 103), some (.int v1), some (.int (v2 + (-1 : Int32)))] [] (sI (sI σ 104 ((σ.1 103 1).toNatClampNeg) ((v1 >>> (((8 : Int32) * v2) &&& 31)) &&& (255 : Int32))) 103 1 ((σ.1 103 1) + (1 : Int32))) Q)))) :
  Wq 238 d 2 [some (.ref 103), some (.int v1), some (.int v2)] [] σ Q := by
  exact fk_run_sound (B := B_M_feeds) (C := C_M_feeds) (n := 7) ok_M_feeds h
def B_M_reads : fkB := [(0, [(.aload_n 0, 1, []), (.iconst 0, 1, []), (.putfield 296, 3, [12, 40, 1917, 0]), (.aload_n 0, 1, []), (.iload_n 1, 1, []), (.putfield 299, 3, [12, 41, 1918, 0]), (.aload_n 0, 1, []), (.iconst 0, 1, []), (.putfield 287, 3, [12, 42, 1919, 0]), (.aload_n 0, 1, []), (.getfield 20, 3, [12, 4, 1881, 0]), (.aload_n 0, 1, []), (.getfield 293, 3, [12, 38, 1915, 0]), (.iconst 0, 1, []), (.iastore, 1, []), (.aload_n 0, 1, []), (.getfield 32, 3, [12, 8, 1885, 0]), (.aload_n 0, 1, []), (.getfield 293, 3, [12, 38, 1915, 0]), (.iconst 0, 1, []), (.iastore, 1, []), (.aload_n 0, 1, []), (.getfield 35, 3, [12, 9, 1886, 0]), (.aload_n 0, 1, []), (.getfield 293, 3, [12, 38, 1915, 0]), (.iconst 0, 1, []), (.iastore, 1, []), (.aload_n 0, 1, []), (.getfield 38, 3, [12, 10, 1887, 0]), (.aload_n 0, 1, []), (.getfield 293, 3, [12, 38, 1915, 0]), (.iconst 0, 1, []), (.iastore, 1, []), (.aload_n 0, 1, []), (.getfield 41, 3, [12, 11, 1888, 0]), (.aload_n 0, 1, []), (.getfield 293, 3, [12, 38, 1915, 0]), (.iconst 0, 1, []), (.iastore, 1, []), (.aload_n 0, 1, []), (.getfield 44, 3, [12, 12, 1889, 0]), (.aload_n 0, 1, []), (.getfield 293, 3, [12, 38, 1915, 0]), (.iconst 0, 1, []), (.iastore, 1, []), (.aload_n 0, 1, []), (.getfield 47, 3, [12, 13, 1890, 0]), (.aload_n 0, 1, []), (.getfield 293, 3, [12, 38, 1915, 0]), (.iconst 0, 1, []), (.iastore, 1, []), (.aload_n 0, 1, []), (.getfield 50, 3, [12, 14, 1891, 0]), (.aload_n 0, 1, []), (.getfield 293, 3, [12, 38, 1915, 0]), (.iconst 0, 1, []), (.iastore, 1, []), (.aload_n 0, 1, []), (.iconst 0, 1, []), (.invokevirtual 327, 3, [241, 1, 2323, 0, 0, 12]), (.aload_n 0, 1, []), (.bipush 97, 2, []), (.invokevirtual 327, 3, [241, 1, 2323, 0, 0, 12]), (.aload_n 0, 1, []), (.bipush 115, 2, []), (.invokevirtual 327, 3, [241, 1, 2323, 0, 0, 12]), (.aload_n 0, 1, []), (.bipush 109, 2, []), (.invokevirtual 327, 3, [241, 1, 2323, 0, 0, 12]), (.aload_n 0, 1, []), (.iconst 1, 1, []), (.invokevirtual 327, 3, [241, 1, 2323, 0, 0, 12]), (.aload_n 0, 1, []), (.iconst 0, 1, []), (.invokevirtual 327, 3, [241, 1, 2323, 0, 0, 12]), (.aload_n 0, 1, []), (.iconst 0, 1, []), (.invokevirtual 327, 3, [241, 1, 2323, 0, 0, 12]), (.aload_n 0, 1, []), (.iconst 0, 1, []), (.invokevirtual 327, 3, [241, 1, 2323, 0, 0, 12]), (.iconst 0, 1, []), (.istore_n 2, 1, [])]),
  (140, [(.aload_n 0, 1, []), (.getfield 287, 3, [12, 42, 1919, 0]), (.ifCond .ne 150, 3, [294])]),
  (147, [(.aload_n 0, 1, []), (.getfield 296, 3, [12, 40, 1917, 0]), (.iload_n 1, 1, []), (.if_icmp .ge 142, 3, [294])]),
  (155, [(.aload_n 0, 1, []), (.getfield 296, 3, [12, 40, 1917, 0]), (.istore_n 3, 1, []), (.aload_n 0, 1, []), (.invokevirtual 306, 3, [243, 0, 2331, 0, 1, 12]), (.istore 4, 2, []), (.iload 4, 2, []), (.iconst 2, 1, []), (.if_icmp .eq 17, 3, [186])]),
  (172, [(.iload 4, 2, []), (.bipush 8, 2, []), (.if_icmp .eq 10, 3, [186])]),
  (179, [(.iload 4, 2, []), (.bipush 11, 2, []), (.if_icmp .ne 13, 3, [196])]),
  (186, [(.aload_n 0, 1, []), (.bipush (-2), 2, []), (.iload_n 3, 1, []), (.invokevirtual 302, 3, [244, 2, 2335, 0, 0, 12]), (.goto 27, 3, [220])]),
  (196, [(.iload 4, 2, []), (.bipush 11, 2, []), (.if_icmp .gt 14, 3, [214])]),
  (203, [(.iload 4, 2, []), (.ifCond .eq 15, 3, [220])]),
  (208, [(.iload 4, 2, []), (.iload_n 2, 1, []), (.if_icmp .gt 9, 3, [220])]),
  (214, [(.aload_n 0, 1, []), (.iconst (-1), 1, []), (.iload_n 3, 1, []), (.invokevirtual 302, 3, [244, 2, 2335, 0, 0, 12])]),
  (220, [(.iload 4, 2, []), (.ifCond .eq 6, 3, [228])]),
  (225, [(.iload 4, 2, []), (.istore_n 2, 1, [])]),
  (228, [(.aload_n 0, 1, []), (.invokevirtual 330, 3, [245, 0, 2339, 0, 1, 12]), (.istore 5, 2, []), (.aload_n 0, 1, []), (.getfield 287, 3, [12, 42, 1919, 0]), (.ifCond .eq 4, 3, [242])]),
  (241, [(.return_, 1, [])]),
  (242, [(.aload_n 0, 1, []), (.aload_n 0, 1, []), (.getfield 296, 3, [12, 40, 1917, 0]), (.iload 5, 2, []), (.iadd, 1, []), (.putfield 299, 3, [12, 41, 1918, 0]), (.aload_n 0, 1, []), (.iload 4, 2, []), (.invokevirtual 333, 3, [248, 1, 2351, 0, 0, 12]), (.aload_n 0, 1, []), (.getfield 287, 3, [12, 42, 1919, 0]), (.ifCond .ne 23, 3, [286])]),
  (266, [(.aload_n 0, 1, []), (.getfield 296, 3, [12, 40, 1917, 0]), (.aload_n 0, 1, []), (.getfield 299, 3, [12, 41, 1918, 0]), (.if_icmp .ge 12, 3, [286])]),
  (277, [(.aload_n 0, 1, []), (.iconst (-1), 1, []), (.aload_n 0, 1, []), (.getfield 296, 3, [12, 40, 1917, 0]), (.invokevirtual 302, 3, [244, 2, 2335, 0, 0, 12])]),
  (286, [(.aload_n 0, 1, []), (.iload_n 1, 1, []), (.putfield 299, 3, [12, 41, 1918, 0]), (.goto (-151), 3, [140])]),
  (294, [(.aload_n 0, 1, []), (.getfield 32, 3, [12, 8, 1885, 0]), (.aload_n 0, 1, []), (.getfield 293, 3, [12, 38, 1915, 0]), (.iaload, 1, []), (.aload_n 0, 1, []), (.getfield 50, 3, [12, 14, 1891, 0]), (.aload_n 0, 1, []), (.getfield 293, 3, [12, 38, 1915, 0]), (.iaload, 1, []), (.if_icmp .eq 9, 3, [321])]),
  (315, [(.aload_n 0, 1, []), (.iconst (-1), 1, []), (.iload_n 1, 1, []), (.invokevirtual 302, 3, [244, 2, 2335, 0, 0, 12])]),
  (321, [(.return_, 1, [])])]
set_option maxRecDepth 100000 in
theorem ok_M_reads : fk_okM 240 B_M_reads = true := by decide +kernel
abbrev C_M_reads : fkC := [(140, [true, true, true, false, false, false]), (228, [true, true, true, false, true, false]), (294, [true, true, false, false, false, false])]
set_option maxRecDepth 100000 in
set_option maxHeartbeats 4000000 in
theorem S_M_reads {d : Nat} {a0 : Int32} {σ : fkS} {Q : Option Value → fkS → Prop} 
  (h : (vp_in (σ.1 103 38) 2 ∧
  (vp_in (σ.1 103 38) 2 ∧
  (vp_in (σ.1 103 38) 2 ∧
  (vp_in (σ.1 103 38) 2 ∧
  (vp_in (σ.1 103 38) 2 ∧
  (vp_in (σ.1 103 38) 2 ∧
  (vp_in (σ.1 103 38) 2 ∧
  (vp_in (σ.1 103 38) 2 ∧
  (Cv d 241 [.ref 103, .int (0 : Int32)] (sI (sI (sI (sI (sI (sI (sI (sI (sI (sI (sI σ 103 40 (0 : Int32)) 103 41 a0) 103 42 (0 : Int32)) 106 ((σ.1 103 38).toNatClampNeg) (0 : Int32)) 110 ((σ.1 103 38).toNatClampNeg) (0 : Int32)) 111 ((σ.1 103 38).toNatClampNeg) (0 : Int32)) 112 ((σ.1 103 38).toNatClampNeg) (0 : Int32)) 113 ((σ.1 103 38).toNatClampNeg) (0 : Int32)) 114 ((σ.1 103 38).toNatClampNeg) (0 : Int32)) 115 ((σ.1 103 38).toNatClampNeg) (0 : Int32)) 116 ((σ.1 103 38).toNatClampNeg) (0 : Int32)) (fun σ1 =>
  (Cv d 241 [.ref 103, .int (97 : Int32)] σ1 (fun σ2 =>
  (Cv d 241 [.ref 103, .int (115 : Int32)] σ2 (fun σ3 =>
  (Cv d 241 [.ref 103, .int (109 : Int32)] σ3 (fun σ4 =>
  (Cv d 241 [.ref 103, .int (1 : Int32)] σ4 (fun σ5 =>
  (Cv d 241 [.ref 103, .int (0 : Int32)] σ5 (fun σ6 =>
  (Cv d 241 [.ref 103, .int (0 : Int32)] σ6 (fun σ7 =>
  (Cv d 241 [.ref 103, .int (0 : Int32)] σ7 (fun σ8 =>
  Wq 240 (d + 1) 140 [some (.ref 103), some (.int a0), some (.int (0 : Int32)), none, none, none] [] σ8 Q))))))))))))))))))))))))) :
  Cl (d + 1) 240 [.ref 103, .int a0] σ Q := by
  exact Cl.run B_M_reads C_M_reads 25 fk_q240 ok_M_reads rfl h
set_option maxRecDepth 100000 in
set_option maxHeartbeats 4000000 in
theorem S_M_reads_140 {d : Nat} {v1 : Int32} {v2 : Int32} {σ : fkS} {Q : Option Value → fkS → Prop} 
  (h : ((¬ (σ.1 103 42) = 0 →
    Wq 240 (d + 1) 294 [some (.ref 103), some (.int v1), none, none, none, none] [] σ Q) ∧
   ((σ.1 103 42) = 0 →
    ((v1 ≤ (σ.1 103 40) →
      Wq 240 (d + 1) 294 [some (.ref 103), some (.int v1), none, none, none, none] [] σ Q) ∧
     (¬ v1 ≤ (σ.1 103 40) →
      (Ci d 243 [.ref 103] σ (fun x2 σ1 =>
      ((x2 = (2 : Int32) →
        (Cv d 244 [.ref 103, .int (-2 : Int32), .int (σ.1 103 40)] σ1 (fun σ3 =>
        ((x2 = 0 →
          Wq 240 (d + 1) 228 [some (.ref 103), some (.int v1), some (.int v2), none, some (.int x2), none] [] σ3 Q) ∧
         (¬ x2 = 0 →
          Wq 240 (d + 1) 228 [some (.ref 103), some (.int v1), some (.int x2), none, some (.int x2), none] [] σ3 Q))))) ∧
       (¬ x2 = (2 : Int32) →
        ((x2 = (8 : Int32) →
          (Cv d 244 [.ref 103, .int (-2 : Int32), .int (σ.1 103 40)] σ1 (fun σ4 =>
          ((x2 = 0 →
            Wq 240 (d + 1) 228 [some (.ref 103), some (.int v1), some (.int v2), none, some (.int x2), none] [] σ4 Q) ∧
           (¬ x2 = 0 →
            Wq 240 (d + 1) 228 [some (.ref 103), some (.int v1), some (.int x2), none, some (.int x2), none] [] σ4 Q))))) ∧
         (¬ x2 = (8 : Int32) →
          ((¬ x2 = (11 : Int32) →
            (((11 : Int32) < x2 →
              (Cv d 244 [.ref 103, .int (-1 : Int32), .int (σ.1 103 40)] σ1 (fun σ5 =>
              ((x2 = 0 →
                Wq 240 (d + 1) 228 [some (.ref 103), some (.int v1), some (.int v2), none, some (.int x2), none] [] σ5 Q) ∧
               (¬ x2 = 0 →
                Wq 240 (d + 1) 228 [some (.ref 103), some (.int v1), some (.int x2), none, some (.int x2), none] [] σ5 Q))))) ∧
             (¬ (11 : Int32) < x2 →
              ((x2 = 0 →
                ((x2 = 0 →
                  Wq 240 (d + 1) 228 [some (.ref 103), some (.int v1), some (.int v2), none, some (.int x2), none] [] σ1 Q) ∧
                 (¬ x2 = 0 →
                  Wq 240 (d + 1) 228 [some (.ref 103), some (.int v1), some (.int x2), none, some (.int x2), none] [] σ1 Q))) ∧
               (¬ x2 = 0 →
                ((v2 < x2 →
                  ((x2 = 0 →
                    Wq 240 (d + 1) 228 [some (.ref 103), some (.int v1), some (.int v2), none, some (.int x2), none] [] σ1 Q) ∧
                   (¬ x2 = 0 →
                    Wq 240 (d + 1) 228 [some (.ref 103), some (.int v1), some (.int x2), none, some (.int x2), none] [] σ1 Q))) ∧
                 (¬ v2 < x2 →
                  (Cv d 244 [.ref 103, .int (-1 : Int32), .int (σ.1 103 40)] σ1 (fun σ6 =>
                  ((x2 = 0 →
                    Wq 240 (d + 1) 228 [some (.ref 103), some (.int v1), some (.int v2), none, some (.int x2), none] [] σ6 Q) ∧
                   (¬ x2 = 0 →
                    Wq 240 (d + 1) 228 [some (.ref 103), some (.int v1), some (.int x2), none, some (.int x2), none] [] σ6 Q))))))))))) ∧
           (x2 = (11 : Int32) →
            (Cv d 244 [.ref 103, .int (-2 : Int32), .int (σ.1 103 40)] σ1 (fun σ7 =>
            ((x2 = 0 →
              Wq 240 (d + 1) 228 [some (.ref 103), some (.int v1), some (.int v2), none, some (.int x2), none] [] σ7 Q) ∧
             (¬ x2 = 0 →
              Wq 240 (d + 1) 228 [some (.ref 103), some (.int v1), some (.int x2), none, some (.int x2), none] [] σ7 Q))))))))))))))))) :
  Wq 240 (d + 1) 140 [some (.ref 103), some (.int v1), some (.int v2), none, none, none] [] σ Q := by
  exact fk_run_sound (B := B_M_reads) (C := C_M_reads) (n := 25) ok_M_reads h
set_option maxRecDepth 100000 in
set_option maxHeartbeats 4000000 in
theorem S_M_reads_228 {d : Nat} {v1 : Int32} {v2 : Int32} {v4 : Int32} {σ : fkS} {Q : Option Value → fkS → Prop} 
  (h : (Ci d 245 [.ref 103] σ (fun x2 σ1 =>
  (((σ1.1 103 42) = 0 →
    (Cv d 248 [.ref 103, .int v4] (sI σ1 103 41 ((σ1.1 103 40) + x2)) (fun σ3 =>
    ((¬ (σ3.1 103 42) = 0 →
      Wq 240 (d + 1) 140 [some (.ref 103), some (.int v1), some (.int v2), none, none, none] [] (sI σ3 103 41 v1) Q) ∧
     ((σ3.1 103 42) = 0 →
      (((σ3.1 103 41) ≤ (σ3.1 103 40) →
        Wq 240 (d + 1) 140 [some (.ref 103), some (.int v1), some (.int v2), none, none, none] [] (sI σ3 103 41 v1) Q) ∧
       (¬ (σ3.1 103 41) ≤ (σ3.1 103 40) →
        (Cv d 244 [.ref 103, .int (-1 : Int32), .int (σ3.1 103 40)] σ3 (fun σ4 =>
        Wq 240 (d + 1) 140 [some (.ref 103), some (.int v1), some (.int v2), none, none, none] [] (sI σ4 103 41 v1) Q))))))))) ∧
   (¬ (σ1.1 103 42) = 0 →
    Q none σ1))))) :
  Wq 240 (d + 1) 228 [some (.ref 103), some (.int v1), some (.int v2), none, some (.int v4), none] [] σ Q := by
  exact fk_run_sound (B := B_M_reads) (C := C_M_reads) (n := 25) ok_M_reads h
set_option maxRecDepth 100000 in
set_option maxHeartbeats 4000000 in
theorem S_M_reads_294 {d : Nat} {v1 : Int32} {σ : fkS} {Q : Option Value → fkS → Prop} 
  (h : (vp_in (σ.1 103 38) 2 ∧
  (vp_in (σ.1 103 38) 2 ∧
  (((σ.1 110 ((σ.1 103 38).toNatClampNeg)) = (σ.1 116 ((σ.1 103 38).toNatClampNeg)) →
    Q none σ) ∧
   (¬ (σ.1 110 ((σ.1 103 38).toNatClampNeg)) = (σ.1 116 ((σ.1 103 38).toNatClampNeg)) →
    (Cv d 244 [.ref 103, .int (-1 : Int32), .int v1] σ (fun σ1 =>
    Q none σ1))))))) :
  Wq 240 (d + 1) 294 [some (.ref 103), some (.int v1), none, none, none, none] [] σ Q := by
  exact fk_run_sound (B := B_M_reads) (C := C_M_reads) (n := 25) ok_M_reads h
def B_M_must : fkB := [(0, [(.aload_n 0, 1, []), (.iload_n 1, 1, []), (.iload_n 1, 1, []), (.invokevirtual 310, 3, [242, 2, 2327, 0, 1, 12]), (.istore_n 2, 1, []), (.return_, 1, [])])]
set_option maxRecDepth 100000 in
theorem ok_M_must : fk_okM 241 B_M_must = true := by decide +kernel
abbrev C_M_must : fkC := []
set_option maxRecDepth 100000 in
set_option maxHeartbeats 4000000 in
theorem S_M_must {d : Nat} {a0 : Int32} {σ : fkS} {Q : Option Value → fkS → Prop} 
  (h : (Ci d 242 [.ref 103, .int a0, .int a0] σ (fun x2 σ1 =>
  Q none σ1))) :
  Cl (d + 1) 241 [.ref 103, .int a0] σ Q := by
  exact Cl.run B_M_must C_M_must 4 fk_q241 ok_M_must rfl h
def B_M_either : fkB := [(0, [(.aload_n 0, 1, []), (.getfield 296, 3, [12, 40, 1917, 0]), (.istore_n 3, 1, []), (.aload_n 0, 1, []), (.invokevirtual 306, 3, [243, 0, 2331, 0, 1, 12]), (.istore 4, 2, []), (.iload 4, 2, []), (.iload_n 1, 1, []), (.if_icmp .eq 15, 3, [29])]),
  (17, [(.iload 4, 2, []), (.iload_n 2, 1, []), (.if_icmp .eq 9, 3, [29])]),
  (23, [(.aload_n 0, 1, []), (.iconst (-1), 1, []), (.iload_n 3, 1, []), (.invokevirtual 302, 3, [244, 2, 2335, 0, 0, 12])]),
  (29, [(.iload 4, 2, []), (.ireturn, 1, [])])]
set_option maxRecDepth 100000 in
theorem ok_M_either : fk_okM 242 B_M_either = true := by decide +kernel
abbrev C_M_either : fkC := []
set_option maxRecDepth 100000 in
set_option maxHeartbeats 4000000 in
theorem S_M_either {d : Nat} {a0 : Int32} {a1 : Int32} {σ : fkS} {Q : Option Value → fkS → Prop} 
  (h : (Ci d 243 [.ref 103] σ (fun x2 σ1 =>
  ((x2 = a0 →
    Q (some (.int x2)) σ1) ∧
   (¬ x2 = a0 →
    ((x2 = a1 →
      Q (some (.int x2)) σ1) ∧
     (¬ x2 = a1 →
      (Cv d 244 [.ref 103, .int (-1 : Int32), .int (σ.1 103 40)] σ1 (fun σ3 =>
      Q (some (.int x2)) σ3))))))))) :
  Cl (d + 1) 242 [.ref 103, .int a0, .int a1] σ Q := by
  exact Cl.run B_M_either C_M_either 7 fk_q242 ok_M_either rfl h
def B_M_next : fkB := [(0, [(.aload_n 0, 1, []), (.getfield 287, 3, [12, 42, 1919, 0]), (.ifCond .eq 5, 3, [9])]),
  (7, [(.iconst 0, 1, []), (.ireturn, 1, [])]),
  (9, [(.aload_n 0, 1, []), (.getfield 296, 3, [12, 40, 1917, 0]), (.aload_n 0, 1, []), (.getfield 299, 3, [12, 41, 1918, 0]), (.if_icmp .lt 14, 3, [31])]),
  (20, [(.aload_n 0, 1, []), (.iconst (-1), 1, []), (.aload_n 0, 1, []), (.getfield 299, 3, [12, 41, 1918, 0]), (.invokevirtual 302, 3, [244, 2, 2335, 0, 0, 12]), (.iconst 0, 1, []), (.ireturn, 1, [])]),
  (31, [(.aload_n 0, 1, []), (.dup, 1, []), (.getfield 296, 3, [12, 40, 1917, 0]), (.iconst 1, 1, []), (.iadd, 1, []), (.putfield 296, 3, [12, 40, 1917, 0]), (.aload_n 0, 1, []), (.getfield 17, 3, [12, 3, 1880, 0]), (.sipush 4000, 3, []), (.aload_n 0, 1, []), (.getfield 293, 3, [12, 38, 1915, 0]), (.imul, 1, []), (.aload_n 0, 1, []), (.getfield 296, 3, [12, 40, 1917, 0]), (.iadd, 1, []), (.iconst 1, 1, []), (.isub, 1, []), (.iaload, 1, []), (.ireturn, 1, [])])]
set_option maxRecDepth 100000 in
theorem ok_M_next : fk_okM 243 B_M_next = true := by decide +kernel
abbrev C_M_next : fkC := []
set_option maxRecDepth 100000 in
set_option maxHeartbeats 4000000 in
theorem S_M_next {d : Nat}  {σ : fkS} {Q : Option Value → fkS → Prop} 
  (h : (((σ.1 103 42) = 0 →
    (((σ.1 103 40) < (σ.1 103 41) →
      (vp_in ((((4000 : Int32) * (σ.1 103 38)) + ((σ.1 103 40) + (1 : Int32))) - (1 : Int32)) 8000 ∧
      Q (some (.int (σ.1 105 (((((4000 : Int32) * (σ.1 103 38)) + ((σ.1 103 40) + (1 : Int32))) - (1 : Int32)).toNatClampNeg)))) (sI σ 103 40 ((σ.1 103 40) + (1 : Int32))))) ∧
     (¬ (σ.1 103 40) < (σ.1 103 41) →
      (Cv d 244 [.ref 103, .int (-1 : Int32), .int (σ.1 103 41)] σ (fun σ1 =>
      Q (some (.int (0 : Int32))) σ1))))) ∧
   (¬ (σ.1 103 42) = 0 →
    Q (some (.int (0 : Int32))) σ))) :
  Cl (d + 1) 243 [.ref 103] σ Q := by
  exact Cl.run B_M_next C_M_next 8 fk_q243 ok_M_next rfl h
def B_M_fails : fkB := [(0, [(.aload_n 0, 1, []), (.getfield 287, 3, [12, 42, 1919, 0]), (.ifCond .eq 4, 3, [8])]),
  (7, [(.return_, 1, [])]),
  (8, [(.aload_n 0, 1, []), (.iload_n 1, 1, []), (.putfield 287, 3, [12, 42, 1919, 0]), (.aload_n 0, 1, []), (.iload_n 2, 1, []), (.putfield 290, 3, [12, 43, 1920, 0]), (.return_, 1, [])])]
set_option maxRecDepth 100000 in
theorem ok_M_fails : fk_okM 244 B_M_fails = true := by decide +kernel
abbrev C_M_fails : fkC := []
set_option maxRecDepth 100000 in
set_option maxHeartbeats 4000000 in
theorem S_M_fails {d : Nat} {a0 : Int32} {a1 : Int32} {σ : fkS} {Q : Option Value → fkS → Prop} 
  (h : (((σ.1 103 42) = 0 →
    Q none (sI (sI σ 103 42 a0) 103 43 a1)) ∧
   (¬ (σ.1 103 42) = 0 →
    Q none σ))) :
  Cl d 244 [.ref 103, .int a0, .int a1] σ Q := by
  exact Cl.run B_M_fails C_M_fails 6 fk_q244 ok_M_fails rfl h
def B_M_sizeOf : fkB := [(0, [(.aload_n 0, 1, []), (.getfield 296, 3, [12, 40, 1917, 0]), (.istore_n 1, 1, []), (.aload_n 0, 1, []), (.invokevirtual 321, 3, [246, 0, 2343, 0, 2, 12]), (.lstore_n 2, 1, []), (.lload_n 2, 1, []), (.aload_n 0, 1, []), (.getfield 299, 3, [12, 41, 1918, 0]), (.aload_n 0, 1, []), (.getfield 296, 3, [12, 40, 1917, 0]), (.isub, 1, []), (.i2l, 1, []), (.lcmp, 1, []), (.ifCond .le 9, 3, [31])]),
  (25, [(.aload_n 0, 1, []), (.iconst (-1), 1, []), (.iload_n 1, 1, []), (.invokevirtual 302, 3, [244, 2, 2335, 0, 0, 12])]),
  (31, [(.aload_n 0, 1, []), (.getfield 287, 3, [12, 42, 1919, 0]), (.ifCond .eq 7, 3, [42])]),
  (38, [(.iconst 0, 1, []), (.goto 5, 3, [44])]),
  (42, [(.lload_n 2, 1, []), (.l2i, 1, [])]),
  (44, [(.ireturn, 1, [])])]
set_option maxRecDepth 100000 in
theorem ok_M_sizeOf : fk_okM 245 B_M_sizeOf = true := by decide +kernel
abbrev C_M_sizeOf : fkC := []
set_option maxRecDepth 100000 in
set_option maxHeartbeats 4000000 in
theorem S_M_sizeOf {d : Nat}  {σ : fkS} {Q : Option Value → fkS → Prop} 
  (h : (Cj d 246 [.ref 103] σ (fun x2 σ1 =>
  (((lg_cmp x2 (((σ1.1 103 41) - (σ1.1 103 40)).toInt64)) ≤ 0 →
    (((σ1.1 103 42) = 0 →
      Q (some (.int x2.toInt32)) σ1) ∧
     (¬ (σ1.1 103 42) = 0 →
      Q (some (.int (0 : Int32))) σ1))) ∧
   (¬ (lg_cmp x2 (((σ1.1 103 41) - (σ1.1 103 40)).toInt64)) ≤ 0 →
    (Cv d 244 [.ref 103, .int (-1 : Int32), .int (σ.1 103 40)] σ1 (fun σ3 =>
    (((σ3.1 103 42) = 0 →
      Q (some (.int x2.toInt32)) σ3) ∧
     (¬ (σ3.1 103 42) = 0 →
      Q (some (.int (0 : Int32))) σ3))))))))) :
  Cl (d + 1) 245 [.ref 103] σ Q := by
  exact Cl.run B_M_sizeOf C_M_sizeOf 9 fk_q245 ok_M_sizeOf rfl h
def B_M_u32 : fkB := [(0, [(.aload_n 0, 1, []), (.getfield 287, 3, [12, 42, 1919, 0]), (.ifCond .eq 5, 3, [9])]),
  (7, [(.lconst 0, 1, []), (.lreturn, 1, [])]),
  (9, [(.aload_n 0, 1, []), (.getfield 296, 3, [12, 40, 1917, 0]), (.istore_n 1, 1, []), (.lconst 0, 1, []), (.lstore_n 2, 1, []), (.iconst 0, 1, []), (.istore 4, 2, [])]),
  (19, [(.iload 4, 2, []), (.iconst 5, 1, []), (.if_icmp .ge 85, 3, [107])]),
  (25, [(.aload_n 0, 1, []), (.getfield 296, 3, [12, 40, 1917, 0]), (.aload_n 0, 1, []), (.getfield 299, 3, [12, 41, 1918, 0]), (.if_icmp .lt 11, 3, [44])]),
  (36, [(.aload_n 0, 1, []), (.iconst (-1), 1, []), (.iload_n 1, 1, []), (.invokevirtual 302, 3, [244, 2, 2335, 0, 0, 12]), (.lconst 0, 1, []), (.lreturn, 1, [])]),
  (44, [(.aload_n 0, 1, []), (.invokevirtual 314, 3, [247, 0, 2347, 0, 1, 12]), (.istore 5, 2, []), (.aload_n 0, 1, []), (.dup, 1, []), (.getfield 296, 3, [12, 40, 1917, 0]), (.iconst 1, 1, []), (.iadd, 1, []), (.putfield 296, 3, [12, 40, 1917, 0]), (.iload 4, 2, []), (.iconst 4, 1, []), (.if_icmp .ne 13, 3, [76])]),
  (66, [(.iload 5, 2, []), (.bipush 15, 2, []), (.if_icmp .le 6, 3, [76])]),
  (73, [(.goto 34, 3, [107])]),
  (76, [(.lload_n 2, 1, []), (.iload 5, 2, []), (.bipush 127, 2, []), (.iand, 1, []), (.i2l, 1, []), (.bipush 7, 2, []), (.iload 4, 2, []), (.imul, 1, []), (.lshl, 1, []), (.lor, 1, []), (.lstore_n 2, 1, []), (.iload 5, 2, []), (.sipush 128, 3, []), (.if_icmp .ge 5, 3, [101])]),
  (99, [(.lload_n 2, 1, []), (.lreturn, 1, [])]),
  (101, [(.iinc 4 1, 3, []), (.goto (-85), 3, [19])]),
  (107, [(.aload_n 0, 1, []), (.iconst (-1), 1, []), (.iload_n 1, 1, []), (.invokevirtual 302, 3, [244, 2, 2335, 0, 0, 12]), (.lconst 0, 1, []), (.lreturn, 1, [])])]
set_option maxRecDepth 100000 in
theorem ok_M_u32 : fk_okM 246 B_M_u32 = true := by decide +kernel
abbrev C_M_u32 : fkC := [(19, [true, true, true, false, true, false]), (76, [true, true, true, false, true, true])]
set_option maxRecDepth 100000 in
set_option maxHeartbeats 4000000 in
theorem S_M_u32 {d : Nat}  {σ : fkS} {Q : Option Value → fkS → Prop} 
  (h : (((σ.1 103 42) = 0 →
    Wq 246 (d + 1) 19 [some (.ref 103), some (.int (σ.1 103 40)), some (.long (0 : Int64)), none, some (.int (0 : Int32)), none] [] σ Q) ∧
   (¬ (σ.1 103 42) = 0 →
    Q (some (.long (0 : Int64))) σ))) :
  Cl (d + 1) 246 [.ref 103] σ Q := by
  exact Cl.run B_M_u32 C_M_u32 16 fk_q246 ok_M_u32 rfl h
set_option maxRecDepth 100000 in
set_option maxHeartbeats 4000000 in
theorem S_M_u32_19 {d : Nat} {v1 : Int32} {v2 : Int64} {v4 : Int32} {σ : fkS} {Q : Option Value → fkS → Prop} 
  (h : (((5 : Int32) ≤ v4 →
    (Cv d 244 [.ref 103, .int (-1 : Int32), .int v1] σ (fun σ1 =>
    Q (some (.long (0 : Int64))) σ1))) ∧
   (¬ (5 : Int32) ≤ v4 →
    (((σ.1 103 40) < (σ.1 103 41) →
      (Ci d 247 [.ref 103] σ (fun x3 σ2 =>
      ((¬ v4 = (4 : Int32) →
        Wq 246 (d + 1) 76 [some (.ref 103), some (.int v1), some (.long v2), none, some (.int v4), some (.int x3)] [] (sI σ2 103 40 ((σ2.1 103 40) + (1 : Int32))) Q) ∧
       (v4 = (4 : Int32) →
        ((x3 ≤ (15 : Int32) →
          Wq 246 (d + 1) 76 [some (.ref 103), some (.int v1), some (.long v2), none, some (.int v4), some (.int x3)] [] (sI σ2 103 40 ((σ2.1 103 40) + (1 : Int32))) Q) ∧
         (¬ x3 ≤ (15 : Int32) →
          (Cv d 244 [.ref 103, .int (-1 : Int32), .int v1] (sI σ2 103 40 ((σ2.1 103 40) + (1 : Int32))) (fun σ4 =>
          Q (some (.long (0 : Int64))) σ4))))))))) ∧
     (¬ (σ.1 103 40) < (σ.1 103 41) →
      (Cv d 244 [.ref 103, .int (-1 : Int32), .int v1] σ (fun σ5 =>
      Q (some (.long (0 : Int64))) σ5))))))) :
  Wq 246 (d + 1) 19 [some (.ref 103), some (.int v1), some (.long v2), none, some (.int v4), none] [] σ Q := by
  exact fk_run_sound (B := B_M_u32) (C := C_M_u32) (n := 16) ok_M_u32 h
set_option maxRecDepth 100000 in
set_option maxHeartbeats 4000000 in
theorem S_M_u32_76 {d : Nat} {v1 : Int32} {v2 : Int64} {v4 : Int32} {v5 : Int32} {σ : fkS} {Q : Option Value → fkS → Prop} 
  (h : (((128 : Int32) ≤ v5 →
    Wq 246 (d + 1) 19 [some (.ref 103), some (.int v1), some (.long (v2 ||| (fk_lshl ((v5 &&& (127 : Int32)).toInt64) ((7 : Int32) * v4)))), none, some (.int (v4 + (1 : Int32))), none] [] σ Q) ∧
   (¬ (128 : Int32) ≤ v5 →
    Q (some (.long (v2 ||| (fk_lshl ((v5 &&& (127 : Int32)).toInt64) ((7 : Int32) * v4))))) σ))) :
  Wq 246 (d + 1) 76 [some (.ref 103), some (.int v1), some (.long v2), none, some (.int v4), some (.int v5)] [] σ Q := by
  exact fk_run_sound (B := B_M_u32) (C := C_M_u32) (n := 16) ok_M_u32 h
def B_M_here : fkB := [(0, [(.aload_n 0, 1, []), (.getfield 17, 3, [12, 3, 1880, 0]), (.sipush 4000, 3, []), (.aload_n 0, 1, []), (.getfield 293, 3, [12, 38, 1915, 0]), (.imul, 1, []), (.aload_n 0, 1, []), (.getfield 296, 3, [12, 40, 1917, 0]), (.iadd, 1, []), (.iaload, 1, []), (.ireturn, 1, [])])]
set_option maxRecDepth 100000 in
theorem ok_M_here : fk_okM 247 B_M_here = true := by decide +kernel
abbrev C_M_here : fkC := []
set_option maxRecDepth 100000 in
set_option maxHeartbeats 4000000 in
theorem S_M_here {d : Nat}  {σ : fkS} {Q : Option Value → fkS → Prop} 
  (h : (vp_in (((4000 : Int32) * (σ.1 103 38)) + (σ.1 103 40)) 8000 ∧
  Q (some (.int (σ.1 105 ((((4000 : Int32) * (σ.1 103 38)) + (σ.1 103 40)).toNatClampNeg)))) σ)) :
  Cl d 247 [.ref 103] σ Q := by
  exact Cl.run B_M_here C_M_here 4 fk_q247 ok_M_here rfl h
def B_M_section : fkB := [(0, [(.iload_n 1, 1, []), (.ifCond .ne 24, 3, [25])]),
  (4, [(.aload_n 0, 1, []), (.invokevirtual 336, 3, [249, 0, 2355, 0, 1, 12]), (.istore_n 2, 1, []), (.aload_n 0, 1, []), (.getfield 287, 3, [12, 42, 1919, 0]), (.ifCond .ne 11, 3, [24])]),
  (16, [(.aload_n 0, 1, []), (.aload_n 0, 1, []), (.getfield 299, 3, [12, 41, 1918, 0]), (.putfield 296, 3, [12, 40, 1917, 0])]),
  (24, [(.return_, 1, [])]),
  (25, [(.aload_n 0, 1, []), (.invokevirtual 339, 3, [250, 0, 2359, 0, 1, 12]), (.istore_n 2, 1, []), (.iconst 0, 1, []), (.istore_n 3, 1, [])]),
  (32, [(.iload_n 3, 1, []), (.iload_n 2, 1, []), (.if_icmp .ge 22, 3, [56])]),
  (37, [(.aload_n 0, 1, []), (.getfield 287, 3, [12, 42, 1919, 0]), (.ifCond .ne 15, 3, [56])]),
  (44, [(.aload_n 0, 1, []), (.iload_n 1, 1, []), (.iload_n 3, 1, []), (.invokevirtual 342, 3, [251, 2, 2364, 0, 0, 12]), (.iinc 3 1, 3, []), (.goto (-21), 3, [32])]),
  (56, [(.iload_n 1, 1, []), (.tableswitch 142 1 9 #[51, 142, 64, 77, 90, 103, 116, 142, 129], 51, [199, 108, 199, 121, 134, 147, 160, 173, 199, 186])]),
  (108, [(.aload_n 0, 1, []), (.getfield 20, 3, [12, 4, 1881, 0]), (.aload_n 0, 1, []), (.getfield 293, 3, [12, 38, 1915, 0]), (.iload_n 2, 1, []), (.iastore, 1, []), (.goto 91, 3, [209])]),
  (121, [(.aload_n 0, 1, []), (.getfield 32, 3, [12, 8, 1885, 0]), (.aload_n 0, 1, []), (.getfield 293, 3, [12, 38, 1915, 0]), (.iload_n 2, 1, []), (.iastore, 1, []), (.goto 78, 3, [209])]),
  (134, [(.aload_n 0, 1, []), (.getfield 35, 3, [12, 9, 1886, 0]), (.aload_n 0, 1, []), (.getfield 293, 3, [12, 38, 1915, 0]), (.iload_n 2, 1, []), (.iastore, 1, []), (.goto 65, 3, [209])]),
  (147, [(.aload_n 0, 1, []), (.getfield 38, 3, [12, 10, 1887, 0]), (.aload_n 0, 1, []), (.getfield 293, 3, [12, 38, 1915, 0]), (.iload_n 2, 1, []), (.iastore, 1, []), (.goto 52, 3, [209])]),
  (160, [(.aload_n 0, 1, []), (.getfield 41, 3, [12, 11, 1888, 0]), (.aload_n 0, 1, []), (.getfield 293, 3, [12, 38, 1915, 0]), (.iload_n 2, 1, []), (.iastore, 1, []), (.goto 39, 3, [209])]),
  (173, [(.aload_n 0, 1, []), (.getfield 44, 3, [12, 12, 1889, 0]), (.aload_n 0, 1, []), (.getfield 293, 3, [12, 38, 1915, 0]), (.iload_n 2, 1, []), (.iastore, 1, []), (.goto 26, 3, [209])]),
  (186, [(.aload_n 0, 1, []), (.getfield 47, 3, [12, 13, 1890, 0]), (.aload_n 0, 1, []), (.getfield 293, 3, [12, 38, 1915, 0]), (.iload_n 2, 1, []), (.iastore, 1, []), (.goto 13, 3, [209])]),
  (199, [(.aload_n 0, 1, []), (.getfield 50, 3, [12, 14, 1891, 0]), (.aload_n 0, 1, []), (.getfield 293, 3, [12, 38, 1915, 0]), (.iload_n 2, 1, []), (.iastore, 1, [])]),
  (209, [(.return_, 1, [])])]
set_option maxRecDepth 100000 in
theorem ok_M_section : fk_okM 248 B_M_section = true := by decide +kernel
abbrev C_M_section : fkC := [(32, [true, true, true, true]), (56, [true, true, true, false])]
set_option maxRecDepth 100000 in
set_option maxHeartbeats 4000000 in
theorem S_M_section {d : Nat} {a0 : Int32} {σ : fkS} {Q : Option Value → fkS → Prop} 
  (h : ((¬ a0 = 0 →
    (Ci d 250 [.ref 103] σ (fun x2 σ1 =>
    Wq 248 (d + 1) 32 [some (.ref 103), some (.int a0), some (.int x2), some (.int (0 : Int32))] [] σ1 Q))) ∧
   (a0 = 0 →
    (Ci d 249 [.ref 103] σ (fun x4 σ3 =>
    ((¬ (σ3.1 103 42) = 0 →
      Q none σ3) ∧
     ((σ3.1 103 42) = 0 →
      Q none (sI σ3 103 40 (σ3.1 103 41))))))))) :
  Cl (d + 1) 248 [.ref 103, .int a0] σ Q := by
  exact Cl.run B_M_section C_M_section 21 fk_q248 ok_M_section rfl h
set_option maxRecDepth 100000 in
set_option maxHeartbeats 4000000 in
theorem S_M_section_32 {d : Nat} {v1 : Int32} {v2 : Int32} {v3 : Int32} {σ : fkS} {Q : Option Value → fkS → Prop} 
  (h : ((v2 ≤ v3 →
    Wq 248 (d + 1) 56 [some (.ref 103), some (.int v1), some (.int v2), none] [] σ Q) ∧
   (¬ v2 ≤ v3 →
    ((¬ (σ.1 103 42) = 0 →
      Wq 248 (d + 1) 56 [some (.ref 103), some (.int v1), some (.int v2), none] [] σ Q) ∧
     ((σ.1 103 42) = 0 →
      (Cv d 251 [.ref 103, .int v1, .int v3] σ (fun σ1 =>
      Wq 248 (d + 1) 32 [some (.ref 103), some (.int v1), some (.int v2), some (.int (v3 + (1 : Int32)))] [] σ1 Q))))))) :
  Wq 248 (d + 1) 32 [some (.ref 103), some (.int v1), some (.int v2), some (.int v3)] [] σ Q := by
  exact fk_run_sound (B := B_M_section) (C := C_M_section) (n := 21) ok_M_section h
set_option maxRecDepth 100000 in
set_option maxHeartbeats 4000000 in
theorem S_M_section_56 {d : Nat} {v1 : Int32} {v2 : Int32} {σ : fkS} {Q : Option Value → fkS → Prop} 
  (h : (((v1.toInt < 1 ∨ 9 < v1.toInt) →
    (vp_in (σ.1 103 38) 2 ∧
    Q none (sI σ 116 ((σ.1 103 38).toNatClampNeg) v2))) ∧
   (v1.toInt = 1 →
    (vp_in (σ.1 103 38) 2 ∧
    Q none (sI σ 106 ((σ.1 103 38).toNatClampNeg) v2))) ∧
   (v1.toInt = 2 →
    (vp_in (σ.1 103 38) 2 ∧
    Q none (sI σ 116 ((σ.1 103 38).toNatClampNeg) v2))) ∧
   (v1.toInt = 3 →
    (vp_in (σ.1 103 38) 2 ∧
    Q none (sI σ 110 ((σ.1 103 38).toNatClampNeg) v2))) ∧
   (v1.toInt = 4 →
    (vp_in (σ.1 103 38) 2 ∧
    Q none (sI σ 111 ((σ.1 103 38).toNatClampNeg) v2))) ∧
   (v1.toInt = 5 →
    (vp_in (σ.1 103 38) 2 ∧
    Q none (sI σ 112 ((σ.1 103 38).toNatClampNeg) v2))) ∧
   (v1.toInt = 6 →
    (vp_in (σ.1 103 38) 2 ∧
    Q none (sI σ 113 ((σ.1 103 38).toNatClampNeg) v2))) ∧
   (v1.toInt = 7 →
    (vp_in (σ.1 103 38) 2 ∧
    Q none (sI σ 114 ((σ.1 103 38).toNatClampNeg) v2))) ∧
   (v1.toInt = 8 →
    (vp_in (σ.1 103 38) 2 ∧
    Q none (sI σ 116 ((σ.1 103 38).toNatClampNeg) v2))) ∧
   (v1.toInt = 9 →
    (vp_in (σ.1 103 38) 2 ∧
    Q none (sI σ 115 ((σ.1 103 38).toNatClampNeg) v2))) ∧ True)) :
  Wq 248 (d + 1) 56 [some (.ref 103), some (.int v1), some (.int v2), none] [] σ Q := by
  exact fk_run_sound (B := B_M_section) (C := C_M_section) (n := 21) ok_M_section h
def B_M_nameOf : fkB := [(0, [(.aload_n 0, 1, []), (.invokevirtual 321, 3, [246, 0, 2343, 0, 2, 12]), (.lstore_n 1, 1, []), (.aload_n 0, 1, []), (.getfield 287, 3, [12, 42, 1919, 0]), (.ifCond .eq 5, 3, [14])]),
  (12, [(.iconst 0, 1, []), (.ireturn, 1, [])]),
  (14, [(.lload_n 1, 1, []), (.aload_n 0, 1, []), (.getfield 299, 3, [12, 41, 1918, 0]), (.aload_n 0, 1, []), (.getfield 296, 3, [12, 40, 1917, 0]), (.isub, 1, []), (.i2l, 1, []), (.lcmp, 1, []), (.ifCond .le 14, 3, [40])]),
  (29, [(.aload_n 0, 1, []), (.iconst (-1), 1, []), (.aload_n 0, 1, []), (.getfield 299, 3, [12, 41, 1918, 0]), (.invokevirtual 302, 3, [244, 2, 2335, 0, 0, 12]), (.iconst 0, 1, []), (.ireturn, 1, [])]),
  (40, [(.aload_n 0, 1, []), (.aload_n 0, 1, []), (.getfield 296, 3, [12, 40, 1917, 0]), (.putfield 345, 3, [12, 44, 1921, 0]), (.aload_n 0, 1, []), (.dup, 1, []), (.getfield 296, 3, [12, 40, 1917, 0]), (.lload_n 1, 1, []), (.l2i, 1, []), (.iadd, 1, []), (.putfield 296, 3, [12, 40, 1917, 0]), (.lload_n 1, 1, []), (.l2i, 1, []), (.ireturn, 1, [])])]
set_option maxRecDepth 100000 in
theorem ok_M_nameOf : fk_okM 249 B_M_nameOf = true := by decide +kernel
abbrev C_M_nameOf : fkC := []
set_option maxRecDepth 100000 in
set_option maxHeartbeats 4000000 in
theorem S_M_nameOf {d : Nat}  {σ : fkS} {Q : Option Value → fkS → Prop} 
  (h : (Cj d 246 [.ref 103] σ (fun x2 σ1 =>
  (((σ1.1 103 42) = 0 →
    (((lg_cmp x2 (((σ1.1 103 41) - (σ1.1 103 40)).toInt64)) ≤ 0 →
      Q (some (.int x2.toInt32)) (sI (sI σ1 103 44 (σ1.1 103 40)) 103 40 ((σ1.1 103 40) + x2.toInt32))) ∧
     (¬ (lg_cmp x2 (((σ1.1 103 41) - (σ1.1 103 40)).toInt64)) ≤ 0 →
      (Cv d 244 [.ref 103, .int (-1 : Int32), .int (σ1.1 103 41)] σ1 (fun σ3 =>
      Q (some (.int (0 : Int32))) σ3))))) ∧
   (¬ (σ1.1 103 42) = 0 →
    Q (some (.int (0 : Int32))) σ1))))) :
  Cl (d + 1) 249 [.ref 103] σ Q := by
  exact Cl.run B_M_nameOf C_M_nameOf 8 fk_q249 ok_M_nameOf rfl h
def B_M_many : fkB := [(0, [(.aload_n 0, 1, []), (.getfield 296, 3, [12, 40, 1917, 0]), (.istore_n 1, 1, []), (.aload_n 0, 1, []), (.invokevirtual 321, 3, [246, 0, 2343, 0, 2, 12]), (.lstore_n 2, 1, []), (.lload_n 2, 1, []), (.ldc2_w 325, 3, [60, 2363]), (.lcmp, 1, []), (.ifCond .le 10, 3, [25])]),
  (18, [(.aload_n 0, 1, []), (.bipush (-2), 2, []), (.iload_n 1, 1, []), (.invokevirtual 302, 3, [244, 2, 2335, 0, 0, 12])]),
  (25, [(.aload_n 0, 1, []), (.getfield 287, 3, [12, 42, 1919, 0]), (.ifCond .eq 7, 3, [36])]),
  (32, [(.iconst 0, 1, []), (.goto 5, 3, [38])]),
  (36, [(.lload_n 2, 1, []), (.l2i, 1, [])]),
  (38, [(.ireturn, 1, [])])]
set_option maxRecDepth 100000 in
theorem ok_M_many : fk_okM 250 B_M_many = true := by decide +kernel
abbrev C_M_many : fkC := []
set_option maxRecDepth 100000 in
set_option maxHeartbeats 4000000 in
theorem S_M_many {d : Nat}  {σ : fkS} {Q : Option Value → fkS → Prop} 
  (h : (Cj d 246 [.ref 103] σ (fun x2 σ1 =>
  (((lg_cmp x2 (60 : Int64)) ≤ 0 →
    (((σ1.1 103 42) = 0 →
      Q (some (.int x2.toInt32)) σ1) ∧
     (¬ (σ1.1 103 42) = 0 →
      Q (some (.int (0 : Int32))) σ1))) ∧
   (¬ (lg_cmp x2 (60 : Int64)) ≤ 0 →
    (Cv d 244 [.ref 103, .int (-2 : Int32), .int (σ.1 103 40)] σ1 (fun σ3 =>
    (((σ3.1 103 42) = 0 →
      Q (some (.int x2.toInt32)) σ3) ∧
     (¬ (σ3.1 103 42) = 0 →
      Q (some (.int (0 : Int32))) σ3))))))))) :
  Cl (d + 1) 250 [.ref 103] σ Q := by
  exact Cl.run B_M_many C_M_many 9 fk_q250 ok_M_many rfl h
def B_M_thing : fkB := [(0, [(.bipush 60, 2, []), (.aload_n 0, 1, []), (.getfield 293, 3, [12, 38, 1915, 0]), (.imul, 1, []), (.iload_n 2, 1, []), (.iadd, 1, []), (.istore_n 3, 1, []), (.iload_n 1, 1, []), (.tableswitch 189 1 9 #[49, 189, 57, 70, 92, 108, 153, 189, 181], 49, [200, 60, 200, 68, 81, 103, 119, 164, 200, 192])]),
  (60, [(.aload_n 0, 1, []), (.iload_n 3, 1, []), (.invokevirtual 348, 3, [252, 1, 2368, 0, 0, 12]), (.goto 140, 3, [205])]),
  (68, [(.aload_n 0, 1, []), (.getfield 53, 3, [12, 15, 1892, 0]), (.iload_n 3, 1, []), (.aload_n 0, 1, []), (.invokevirtual 321, 3, [246, 0, 2343, 0, 2, 12]), (.lastore, 1, []), (.goto 127, 3, [205])]),
  (81, [(.aload_n 0, 1, []), (.bipush 112, 2, []), (.invokevirtual 327, 3, [241, 1, 2323, 0, 0, 12]), (.aload_n 0, 1, []), (.iload_n 2, 1, []), (.aload_n 0, 1, []), (.getfield 57, 3, [12, 16, 1893, 0]), (.aload_n 0, 1, []), (.getfield 60, 3, [12, 17, 1894, 0]), (.invokevirtual 351, 3, [254, 3, 2376, 0, 0, 12]), (.goto 105, 3, [205])]),
  (103, [(.aload_n 0, 1, []), (.iload_n 2, 1, []), (.aload_n 0, 1, []), (.getfield 63, 3, [12, 18, 1895, 0]), (.aload_n 0, 1, []), (.getfield 66, 3, [12, 19, 1896, 0]), (.invokevirtual 351, 3, [254, 3, 2376, 0, 0, 12]), (.goto 89, 3, [205])]),
  (119, [(.aload_n 0, 1, []), (.getfield 81, 3, [12, 24, 1901, 0]), (.iload_n 3, 1, []), (.aload_n 0, 1, []), (.invokevirtual 355, 3, [253, 0, 2372, 0, 1, 12]), (.iastore, 1, []), (.aload_n 0, 1, []), (.getfield 84, 3, [12, 25, 1902, 0]), (.iload_n 3, 1, []), (.aload_n 0, 1, []), (.iconst 0, 1, []), (.iconst 1, 1, []), (.invokevirtual 310, 3, [242, 2, 2327, 0, 1, 12]), (.iastore, 1, []), (.aload_n 0, 1, []), (.getfield 87, 3, [12, 26, 1903, 0]), (.iload_n 3, 1, []), (.aload_n 0, 1, []), (.invokevirtual 358, 3, [255, 0, 2381, 0, 1, 12]), (.iastore, 1, []), (.aload_n 0, 1, []), (.getfield 69, 3, [12, 20, 1897, 0]), (.iload_n 3, 1, []), (.aload_n 0, 1, []), (.getfield 361, 3, [12, 45, 1922, 0]), (.lastore, 1, []), (.goto 44, 3, [205])]),
  (164, [(.aload_n 0, 1, []), (.getfield 93, 3, [12, 28, 1905, 0]), (.iload_n 3, 1, []), (.aload_n 0, 1, []), (.invokevirtual 336, 3, [249, 0, 2355, 0, 1, 12]), (.iastore, 1, []), (.aload_n 0, 1, []), (.getfield 90, 3, [12, 27, 1904, 0]), (.iload_n 3, 1, []), (.aload_n 0, 1, []), (.getfield 345, 3, [12, 44, 1921, 0]), (.iastore, 1, []), (.aload_n 0, 1, []), (.iload_n 3, 1, []), (.invokevirtual 365, 3, [259, 1, 2395, 0, 0, 12]), (.goto 16, 3, [205])]),
  (192, [(.aload_n 0, 1, []), (.iload_n 3, 1, []), (.invokevirtual 368, 3, [260, 1, 2399, 0, 0, 12]), (.goto 8, 3, [205])]),
  (200, [(.aload_n 0, 1, []), (.iload_n 3, 1, []), (.invokevirtual 371, 3, [261, 1, 2404, 0, 0, 12])]),
  (205, [(.return_, 1, [])])]
set_option maxRecDepth 100000 in
theorem ok_M_thing : fk_okM 251 B_M_thing = true := by decide +kernel
abbrev C_M_thing : fkC := []
set_option maxRecDepth 100000 in
set_option maxHeartbeats 4000000 in
theorem S_M_thing {d : Nat} {a0 : Int32} {a1 : Int32} {σ : fkS} {Q : Option Value → fkS → Prop} 
  (h : (((a0.toInt < 1 ∨ 9 < a0.toInt) →
    (Cv d 261 [.ref 103, .int (((60 : Int32) * (σ.1 103 38)) + a1)] σ (fun σ1 =>
    Q none σ1))) ∧
   (a0.toInt = 1 →
    (Cv d 252 [.ref 103, .int (((60 : Int32) * (σ.1 103 38)) + a1)] σ (fun σ2 =>
    Q none σ2))) ∧
   (a0.toInt = 2 →
    (Cv d 261 [.ref 103, .int (((60 : Int32) * (σ.1 103 38)) + a1)] σ (fun σ3 =>
    Q none σ3))) ∧
   (a0.toInt = 3 →
    (Cj d 246 [.ref 103] σ (fun x5 σ4 =>
    (vp_in (((60 : Int32) * (σ.1 103 38)) + a1) 120 ∧
    Q none (sL σ4 117 ((((60 : Int32) * (σ.1 103 38)) + a1).toNatClampNeg) x5))))) ∧
   (a0.toInt = 4 →
    (Cv d 241 [.ref 103, .int (112 : Int32)] σ (fun σ6 =>
    (Cv d 254 [.ref 103, .int a1, .ref 118, .ref 119] σ6 (fun σ7 =>
    Q none σ7))))) ∧
   (a0.toInt = 5 →
    (Cv d 254 [.ref 103, .int a1, .ref 120, .ref 121] σ (fun σ8 =>
    Q none σ8))) ∧
   (a0.toInt = 6 →
    (Ci d 253 [.ref 103] σ (fun x10 σ9 =>
    (vp_in (((60 : Int32) * (σ.1 103 38)) + a1) 120 ∧
    (Ci d 242 [.ref 103, .int (0 : Int32), .int (1 : Int32)] (sI σ9 126 ((((60 : Int32) * (σ.1 103 38)) + a1).toNatClampNeg) x10) (fun x12 σ11 =>
    (vp_in (((60 : Int32) * (σ.1 103 38)) + a1) 120 ∧
    (Ci d 255 [.ref 103] (sI σ11 127 ((((60 : Int32) * (σ.1 103 38)) + a1).toNatClampNeg) x12) (fun x14 σ13 =>
    (vp_in (((60 : Int32) * (σ.1 103 38)) + a1) 120 ∧
    (vp_in (((60 : Int32) * (σ.1 103 38)) + a1) 120 ∧
    Q none (sL (sI σ13 128 ((((60 : Int32) * (σ.1 103 38)) + a1).toNatClampNeg) x14) 122 ((((60 : Int32) * (σ.1 103 38)) + a1).toNatClampNeg) (σ13.2.1 103 45))))))))))))) ∧
   (a0.toInt = 7 →
    (Ci d 249 [.ref 103] σ (fun x16 σ15 =>
    (vp_in (((60 : Int32) * (σ.1 103 38)) + a1) 120 ∧
    (vp_in (((60 : Int32) * (σ.1 103 38)) + a1) 120 ∧
    (Cv d 259 [.ref 103, .int (((60 : Int32) * (σ.1 103 38)) + a1)] (sI (sI σ15 130 ((((60 : Int32) * (σ.1 103 38)) + a1).toNatClampNeg) x16) 129 ((((60 : Int32) * (σ.1 103 38)) + a1).toNatClampNeg) (σ15.1 103 44)) (fun σ17 =>
    Q none σ17))))))) ∧
   (a0.toInt = 8 →
    (Cv d 261 [.ref 103, .int (((60 : Int32) * (σ.1 103 38)) + a1)] σ (fun σ18 =>
    Q none σ18))) ∧
   (a0.toInt = 9 →
    (Cv d 260 [.ref 103, .int (((60 : Int32) * (σ.1 103 38)) + a1)] σ (fun σ19 =>
    Q none σ19))) ∧ True)) :
  Cl (d + 1) 251 [.ref 103, .int a0, .int a1] σ Q := by
  exact Cl.run B_M_thing C_M_thing 13 fk_q251 ok_M_thing rfl h
def B_M_type : fkB := [(0, [(.aload_n 0, 1, []), (.bipush 96, 2, []), (.invokevirtual 327, 3, [241, 1, 2323, 0, 0, 12]), (.aload_n 0, 1, []), (.getfield 23, 3, [12, 5, 1882, 0]), (.iload_n 1, 1, []), (.aload_n 0, 1, []), (.invokevirtual 339, 3, [250, 0, 2359, 0, 1, 12]), (.iastore, 1, []), (.iconst 0, 1, []), (.istore_n 2, 1, [])]),
  (18, [(.iload_n 2, 1, []), (.aload_n 0, 1, []), (.getfield 23, 3, [12, 5, 1882, 0]), (.iload_n 1, 1, []), (.iaload, 1, []), (.if_icmp .ge 31, 3, [56])]),
  (28, [(.aload_n 0, 1, []), (.getfield 287, 3, [12, 42, 1919, 0]), (.ifCond .ne 24, 3, [56])]),
  (35, [(.aload_n 0, 1, []), (.getfield 26, 3, [12, 6, 1883, 0]), (.bipush 60, 2, []), (.iload_n 1, 1, []), (.imul, 1, []), (.iload_n 2, 1, []), (.iadd, 1, []), (.aload_n 0, 1, []), (.invokevirtual 355, 3, [253, 0, 2372, 0, 1, 12]), (.iastore, 1, []), (.iinc 2 1, 3, []), (.goto (-35), 3, [18])]),
  (56, [(.aload_n 0, 1, []), (.getfield 296, 3, [12, 40, 1917, 0]), (.istore_n 2, 1, []), (.aload_n 0, 1, []), (.invokevirtual 339, 3, [250, 0, 2359, 0, 1, 12]), (.istore_n 3, 1, []), (.iload_n 3, 1, []), (.iconst 1, 1, []), (.if_icmp .le 9, 3, [77])]),
  (71, [(.aload_n 0, 1, []), (.iconst (-1), 1, []), (.iload_n 2, 1, []), (.invokevirtual 302, 3, [244, 2, 2335, 0, 0, 12])]),
  (77, [(.aload_n 0, 1, []), (.getfield 29, 3, [12, 7, 1884, 0]), (.iload_n 1, 1, []), (.aload_n 0, 1, []), (.getfield 287, 3, [12, 42, 1919, 0]), (.ifCond .ne 15, 3, [101])]),
  (89, [(.iload_n 3, 1, []), (.iconst 1, 1, []), (.if_icmp .ne 10, 3, [101])]),
  (94, [(.aload_n 0, 1, []), (.invokevirtual 355, 3, [253, 0, 2372, 0, 1, 12]), (.goto 4, 3, [102])]),
  (101, [(.iconst 0, 1, [])]),
  (102, [(.iastore, 1, []), (.return_, 1, [])])]
set_option maxRecDepth 100000 in
theorem ok_M_type : fk_okM 252 B_M_type = true := by decide +kernel
abbrev C_M_type : fkC := [(18, [true, true, true, false]), (77, [true, true, false, true])]
set_option maxRecDepth 100000 in
set_option maxHeartbeats 4000000 in
theorem S_M_type {d : Nat} {a0 : Int32} {σ : fkS} {Q : Option Value → fkS → Prop} 
  (h : (Cv d 241 [.ref 103, .int (96 : Int32)] σ (fun σ1 =>
  (Ci d 250 [.ref 103] σ1 (fun x3 σ2 =>
  (vp_in a0 120 ∧
  Wq 252 (d + 1) 18 [some (.ref 103), some (.int a0), some (.int (0 : Int32)), none] [] (sI σ2 107 a0.toNatClampNeg x3) Q)))))) :
  Cl (d + 1) 252 [.ref 103, .int a0] σ Q := by
  exact Cl.run B_M_type C_M_type 14 fk_q252 ok_M_type rfl h
set_option maxRecDepth 100000 in
set_option maxHeartbeats 4000000 in
theorem S_M_type_18 {d : Nat} {v1 : Int32} {v2 : Int32} {σ : fkS} {Q : Option Value → fkS → Prop} 
  (h : (vp_in v1 120 ∧
  (((σ.1 107 v1.toNatClampNeg) ≤ v2 →
    (Ci d 250 [.ref 103] σ (fun x2 σ1 =>
    ((x2 ≤ (1 : Int32) →
      Wq 252 (d + 1) 77 [some (.ref 103), some (.int v1), none, some (.int x2)] [] σ1 Q) ∧
     (¬ x2 ≤ (1 : Int32) →
      (Cv d 244 [.ref 103, .int (-1 : Int32), .int (σ.1 103 40)] σ1 (fun σ3 =>
      Wq 252 (d + 1) 77 [some (.ref 103), some (.int v1), none, some (.int x2)] [] σ3 Q))))))) ∧
   (¬ (σ.1 107 v1.toNatClampNeg) ≤ v2 →
    ((¬ (σ.1 103 42) = 0 →
      (Ci d 250 [.ref 103] σ (fun x5 σ4 =>
      ((x5 ≤ (1 : Int32) →
        Wq 252 (d + 1) 77 [some (.ref 103), some (.int v1), none, some (.int x5)] [] σ4 Q) ∧
       (¬ x5 ≤ (1 : Int32) →
        (Cv d 244 [.ref 103, .int (-1 : Int32), .int (σ.1 103 40)] σ4 (fun σ6 =>
        Wq 252 (d + 1) 77 [some (.ref 103), some (.int v1), none, some (.int x5)] [] σ6 Q))))))) ∧
     ((σ.1 103 42) = 0 →
      (Ci d 253 [.ref 103] σ (fun x8 σ7 =>
      (vp_in (((60 : Int32) * v1) + v2) 7200 ∧
      Wq 252 (d + 1) 18 [some (.ref 103), some (.int v1), some (.int (v2 + (1 : Int32))), none] [] (sI σ7 108 ((((60 : Int32) * v1) + v2).toNatClampNeg) x8) Q))))))))) :
  Wq 252 (d + 1) 18 [some (.ref 103), some (.int v1), some (.int v2), none] [] σ Q := by
  exact fk_run_sound (B := B_M_type) (C := C_M_type) (n := 14) ok_M_type h
set_option maxRecDepth 100000 in
set_option maxHeartbeats 4000000 in
theorem S_M_type_77 {d : Nat} {v1 : Int32} {v3 : Int32} {σ : fkS} {Q : Option Value → fkS → Prop} 
  (h : ((¬ (σ.1 103 42) = 0 →
    (vp_in v1 120 ∧
    Q none (sI σ 109 v1.toNatClampNeg (0 : Int32)))) ∧
   ((σ.1 103 42) = 0 →
    ((¬ v3 = (1 : Int32) →
      (vp_in v1 120 ∧
      Q none (sI σ 109 v1.toNatClampNeg (0 : Int32)))) ∧
     (v3 = (1 : Int32) →
      (Ci d 253 [.ref 103] σ (fun x2 σ1 =>
      (vp_in v1 120 ∧
      Q none (sI σ1 109 v1.toNatClampNeg x2))))))))) :
  Wq 252 (d + 1) 77 [some (.ref 103), some (.int v1), none, some (.int v3)] [] σ Q := by
  exact fk_run_sound (B := B_M_type) (C := C_M_type) (n := 14) ok_M_type h
def B_M_valueType : fkB := [(0, [(.aload_n 0, 1, []), (.getfield 296, 3, [12, 40, 1917, 0]), (.istore_n 1, 1, []), (.aload_n 0, 1, []), (.invokevirtual 306, 3, [243, 0, 2331, 0, 1, 12]), (.istore_n 2, 1, []), (.iload_n 2, 1, []), (.bipush 124, 2, []), (.if_icmp .eq 9, 3, [22])]),
  (16, [(.iload_n 2, 1, []), (.bipush 125, 2, []), (.if_icmp .ne 13, 3, [32])]),
  (22, [(.aload_n 0, 1, []), (.bipush (-2), 2, []), (.iload_n 1, 1, []), (.invokevirtual 302, 3, [244, 2, 2335, 0, 0, 12]), (.goto 21, 3, [50])]),
  (32, [(.iload_n 2, 1, []), (.bipush 127, 2, []), (.if_icmp .eq 15, 3, [50])]),
  (38, [(.iload_n 2, 1, []), (.bipush 126, 2, []), (.if_icmp .eq 9, 3, [50])]),
  (44, [(.aload_n 0, 1, []), (.iconst (-1), 1, []), (.iload_n 1, 1, []), (.invokevirtual 302, 3, [244, 2, 2335, 0, 0, 12])]),
  (50, [(.iload_n 2, 1, []), (.ireturn, 1, [])])]
set_option maxRecDepth 100000 in
theorem ok_M_valueType : fk_okM 253 B_M_valueType = true := by decide +kernel
abbrev C_M_valueType : fkC := []
set_option maxRecDepth 100000 in
set_option maxHeartbeats 4000000 in
theorem S_M_valueType {d : Nat}  {σ : fkS} {Q : Option Value → fkS → Prop} 
  (h : (Ci d 243 [.ref 103] σ (fun x2 σ1 =>
  ((x2 = (124 : Int32) →
    (Cv d 244 [.ref 103, .int (-2 : Int32), .int (σ.1 103 40)] σ1 (fun σ3 =>
    Q (some (.int x2)) σ3))) ∧
   (¬ x2 = (124 : Int32) →
    ((¬ x2 = (125 : Int32) →
      ((x2 = (127 : Int32) →
        Q (some (.int x2)) σ1) ∧
       (¬ x2 = (127 : Int32) →
        ((x2 = (126 : Int32) →
          Q (some (.int x2)) σ1) ∧
         (¬ x2 = (126 : Int32) →
          (Cv d 244 [.ref 103, .int (-1 : Int32), .int (σ.1 103 40)] σ1 (fun σ4 =>
          Q (some (.int x2)) σ4))))))) ∧
     (x2 = (125 : Int32) →
      (Cv d 244 [.ref 103, .int (-2 : Int32), .int (σ.1 103 40)] σ1 (fun σ5 =>
      Q (some (.int x2)) σ5))))))))) :
  Cl (d + 1) 253 [.ref 103] σ Q := by
  exact Cl.run B_M_valueType C_M_valueType 10 fk_q253 ok_M_valueType rfl h
def B_M_limits : fkB := [(0, [(.aload_n 0, 1, []), (.iconst 0, 1, []), (.iconst 1, 1, []), (.invokevirtual 310, 3, [242, 2, 2327, 0, 1, 12]), (.istore 4, 2, []), (.aload_n 0, 1, []), (.invokevirtual 321, 3, [246, 0, 2343, 0, 2, 12]), (.lstore 5, 2, []), (.iload 4, 2, []), (.iconst 1, 1, []), (.if_icmp .ne 10, 3, [27])]),
  (20, [(.aload_n 0, 1, []), (.invokevirtual 321, 3, [246, 0, 2343, 0, 2, 12]), (.goto 6, 3, [30])]),
  (27, [(.ldc2_w 374, 3, [18446744073709551615, 2380])]),
  (30, [(.lstore 7, 2, []), (.iload_n 1, 1, []), (.ifCond .le 4, 3, [37])]),
  (36, [(.return_, 1, [])]),
  (37, [(.aload_n 2, 1, []), (.aload_n 0, 1, []), (.getfield 293, 3, [12, 38, 1915, 0]), (.lload 5, 2, []), (.lastore, 1, []), (.aload_n 3, 1, []), (.aload_n 0, 1, []), (.getfield 293, 3, [12, 38, 1915, 0]), (.lload 7, 2, []), (.lastore, 1, []), (.return_, 1, [])])]
set_option maxRecDepth 100000 in
theorem ok_M_limits : fk_okM 254 B_M_limits = true := by decide +kernel
abbrev C_M_limits : fkC := [(30, [true, true, true, true, false, true, false, false, false])]
set_option maxRecDepth 100000 in
set_option maxHeartbeats 4000000 in
theorem S_M_limits {d : Nat} {a0 : Int32} {σ : fkS} {Q : Option Value → fkS → Prop} 
  (h : (Ci d 242 [.ref 103, .int (0 : Int32), .int (1 : Int32)] σ (fun x2 σ1 =>
  (Cj d 246 [.ref 103] σ1 (fun x4 σ3 =>
  ((¬ x2 = (1 : Int32) →
    Wq 254 (d + 1) 30 [some (.ref 103), some (.int a0), some (.ref 118), some (.ref 119), none, some (.long x4), none, none, none] [.long (Int64.ofNat 18446744073709551615)] σ3 Q) ∧
   (x2 = (1 : Int32) →
    (Cj d 246 [.ref 103] σ3 (fun x6 σ5 =>
    Wq 254 (d + 1) 30 [some (.ref 103), some (.int a0), some (.ref 118), some (.ref 119), none, some (.long x4), none, none, none] [.long x6] σ5 Q))))))))) :
  Cl (d + 1) 254 [.ref 103, .int a0, .ref 118, .ref 119] σ Q := by
  exact Cl.run B_M_limits C_M_limits 9 fk_q254 ok_M_limits rfl h
set_option maxRecDepth 100000 in
set_option maxHeartbeats 4000000 in
theorem S_M_limits_30 {d : Nat} {v1 : Int32} {v5 : Int64} {s0 : Int64} {σ : fkS} {Q : Option Value → fkS → Prop} 
  (h : ((v1 ≤ 0 →
    (vp_in (σ.1 103 38) 2 ∧
    (vp_in (σ.1 103 38) 2 ∧
    Q none (sL (sL σ 118 ((σ.1 103 38).toNatClampNeg) v5) 119 ((σ.1 103 38).toNatClampNeg) s0)))) ∧
   (¬ v1 ≤ 0 →
    Q none σ))) :
  Wq 254 (d + 1) 30 [some (.ref 103), some (.int v1), some (.ref 118), some (.ref 119), none, some (.long v5), none, none, none] [.long s0] σ Q := by
  exact fk_run_sound (B := B_M_limits) (C := C_M_limits) (n := 9) ok_M_limits h
def B_M_limits_v1 : fkB := [(0, [(.aload_n 0, 1, []), (.iconst 0, 1, []), (.iconst 1, 1, []), (.invokevirtual 310, 3, [242, 2, 2327, 0, 1, 12]), (.istore 4, 2, []), (.aload_n 0, 1, []), (.invokevirtual 321, 3, [246, 0, 2343, 0, 2, 12]), (.lstore 5, 2, []), (.iload 4, 2, []), (.iconst 1, 1, []), (.if_icmp .ne 10, 3, [27])]),
  (20, [(.aload_n 0, 1, []), (.invokevirtual 321, 3, [246, 0, 2343, 0, 2, 12]), (.goto 6, 3, [30])]),
  (27, [(.ldc2_w 374, 3, [18446744073709551615, 2380])]),
  (30, [(.lstore 7, 2, []), (.iload_n 1, 1, []), (.ifCond .le 4, 3, [37])]),
  (36, [(.return_, 1, [])]),
  (37, [(.aload_n 2, 1, []), (.aload_n 0, 1, []), (.getfield 293, 3, [12, 38, 1915, 0]), (.lload 5, 2, []), (.lastore, 1, []), (.aload_n 3, 1, []), (.aload_n 0, 1, []), (.getfield 293, 3, [12, 38, 1915, 0]), (.lload 7, 2, []), (.lastore, 1, []), (.return_, 1, [])])]
set_option maxRecDepth 100000 in
theorem ok_M_limits_v1 : fk_okM 254 B_M_limits_v1 = true := by decide +kernel
abbrev C_M_limits_v1 : fkC := [(30, [true, true, true, true, false, true, false, false, false])]
set_option maxRecDepth 100000 in
set_option maxHeartbeats 4000000 in
theorem S_M_limits_v1 {d : Nat} {a0 : Int32} {σ : fkS} {Q : Option Value → fkS → Prop} 
  (h : (Ci d 242 [.ref 103, .int (0 : Int32), .int (1 : Int32)] σ (fun x2 σ1 =>
  (Cj d 246 [.ref 103] σ1 (fun x4 σ3 =>
  ((¬ x2 = (1 : Int32) →
    Wq 254 (d + 1) 30 [some (.ref 103), some (.int a0), some (.ref 120), some (.ref 121), none, some (.long x4), none, none, none] [.long (Int64.ofNat 18446744073709551615)] σ3 Q) ∧
   (x2 = (1 : Int32) →
    (Cj d 246 [.ref 103] σ3 (fun x6 σ5 =>
    Wq 254 (d + 1) 30 [some (.ref 103), some (.int a0), some (.ref 120), some (.ref 121), none, some (.long x4), none, none, none] [.long x6] σ5 Q))))))))) :
  Cl (d + 1) 254 [.ref 103, .int a0, .ref 120, .ref 121] σ Q := by
  exact Cl.run B_M_limits_v1 C_M_limits_v1 9 fk_q254 ok_M_limits_v1 rfl h
set_option maxRecDepth 100000 in
set_option maxHeartbeats 4000000 in
theorem S_M_limits_v1_30 {d : Nat} {v1 : Int32} {v5 : Int64} {s0 : Int64} {σ : fkS} {Q : Option Value → fkS → Prop} 
  (h : ((v1 ≤ 0 →
    (vp_in (σ.1 103 38) 2 ∧
    (vp_in (σ.1 103 38) 2 ∧
    Q none (sL (sL σ 120 ((σ.1 103 38).toNatClampNeg) v5) 121 ((σ.1 103 38).toNatClampNeg) s0)))) ∧
   (¬ v1 ≤ 0 →
    Q none σ))) :
  Wq 254 (d + 1) 30 [some (.ref 103), some (.int v1), some (.ref 120), some (.ref 121), none, some (.long v5), none, none, none] [.long s0] σ Q := by
  exact fk_run_sound (B := B_M_limits_v1) (C := C_M_limits_v1) (n := 9) ok_M_limits_v1 h
def B_M_constant : fkB := [(0, [(.aload_n 0, 1, []), (.getfield 296, 3, [12, 40, 1917, 0]), (.istore_n 1, 1, []), (.aload_n 0, 1, []), (.invokevirtual 306, 3, [243, 0, 2331, 0, 1, 12]), (.istore_n 2, 1, []), (.aload_n 0, 1, []), (.lconst 0, 1, []), (.putfield 361, 3, [12, 45, 1922, 0]), (.iload_n 2, 1, []), (.invokestatic 376, 3, [256, 1, 2385, 0, 1]), (.ifCond .eq 13, 3, [32])]),
  (22, [(.aload_n 0, 1, []), (.bipush (-2), 2, []), (.iload_n 1, 1, []), (.invokevirtual 302, 3, [244, 2, 2335, 0, 0, 12]), (.goto 64, 3, [93])]),
  (32, [(.iload_n 2, 1, []), (.bipush 65, 2, []), (.if_icmp .ne 16, 3, [51])]),
  (38, [(.aload_n 0, 1, []), (.aload_n 0, 1, []), (.bipush 32, 2, []), (.invokevirtual 380, 3, [257, 1, 2388, 0, 2, 12]), (.putfield 361, 3, [12, 45, 1922, 0]), (.goto 45, 3, [93])]),
  (51, [(.iload_n 2, 1, []), (.bipush 66, 2, []), (.if_icmp .ne 16, 3, [70])]),
  (57, [(.aload_n 0, 1, []), (.aload_n 0, 1, []), (.bipush 64, 2, []), (.invokevirtual 380, 3, [257, 1, 2388, 0, 2, 12]), (.putfield 361, 3, [12, 45, 1922, 0]), (.goto 26, 3, [93])]),
  (70, [(.iload_n 2, 1, []), (.bipush 35, 2, []), (.if_icmp .ne 14, 3, [87])]),
  (76, [(.aload_n 0, 1, []), (.aload_n 0, 1, []), (.invokevirtual 321, 3, [246, 0, 2343, 0, 2, 12]), (.putfield 361, 3, [12, 45, 1922, 0]), (.goto 9, 3, [93])]),
  (87, [(.aload_n 0, 1, []), (.iconst (-1), 1, []), (.iload_n 1, 1, []), (.invokevirtual 302, 3, [244, 2, 2335, 0, 0, 12])]),
  (93, [(.aload_n 0, 1, []), (.bipush 11, 2, []), (.invokevirtual 327, 3, [241, 1, 2323, 0, 0, 12]), (.iload_n 2, 1, []), (.ireturn, 1, [])])]
set_option maxRecDepth 100000 in
theorem ok_M_constant : fk_okM 255 B_M_constant = true := by decide +kernel
abbrev C_M_constant : fkC := []
set_option maxRecDepth 100000 in
set_option maxHeartbeats 4000000 in
theorem S_M_constant {d : Nat}  {σ : fkS} {Q : Option Value → fkS → Prop} 
  (h : (Ci d 243 [.ref 103] σ (fun x2 σ1 =>
  (Ci d 256 [.int x2] (sL σ1 103 45 (0 : Int64)) (fun x4 σ3 =>
  ((x4 = 0 →
    ((¬ x2 = (65 : Int32) →
      ((¬ x2 = (66 : Int32) →
        ((¬ x2 = (35 : Int32) →
          (Cv d 244 [.ref 103, .int (-1 : Int32), .int (σ.1 103 40)] σ3 (fun σ5 =>
          (Cv d 241 [.ref 103, .int (11 : Int32)] σ5 (fun σ6 =>
          Q (some (.int x2)) σ6))))) ∧
         (x2 = (35 : Int32) →
          (Cj d 246 [.ref 103] σ3 (fun x8 σ7 =>
          (Cv d 241 [.ref 103, .int (11 : Int32)] (sL σ7 103 45 x8) (fun σ9 =>
          Q (some (.int x2)) σ9))))))) ∧
       (x2 = (66 : Int32) →
        (Cj d 257 [.ref 103, .int (64 : Int32)] σ3 (fun x11 σ10 =>
        (Cv d 241 [.ref 103, .int (11 : Int32)] (sL σ10 103 45 x11) (fun σ12 =>
        Q (some (.int x2)) σ12))))))) ∧
     (x2 = (65 : Int32) →
      (Cj d 257 [.ref 103, .int (32 : Int32)] σ3 (fun x14 σ13 =>
      (Cv d 241 [.ref 103, .int (11 : Int32)] (sL σ13 103 45 x14) (fun σ15 =>
      Q (some (.int x2)) σ15))))))) ∧
   (¬ x4 = 0 →
    (Cv d 244 [.ref 103, .int (-2 : Int32), .int (σ.1 103 40)] σ3 (fun σ16 =>
    (Cv d 241 [.ref 103, .int (11 : Int32)] σ16 (fun σ17 =>
    Q (some (.int x2)) σ17))))))))))) :
  Cl (d + 1) 255 [.ref 103] σ Q := by
  exact Cl.run B_M_constant C_M_constant 13 fk_q255 ok_M_constant rfl h
def B_M_isRefused : fkB := [(0, [(.iload_n 0, 1, []), (.bipush 42, 2, []), (.if_icmp .eq 87, 3, [90])]),
  (6, [(.iload_n 0, 1, []), (.bipush 43, 2, []), (.if_icmp .eq 81, 3, [90])]),
  (12, [(.iload_n 0, 1, []), (.bipush 56, 2, []), (.if_icmp .eq 75, 3, [90])]),
  (18, [(.iload_n 0, 1, []), (.bipush 57, 2, []), (.if_icmp .eq 69, 3, [90])]),
  (24, [(.iload_n 0, 1, []), (.bipush 67, 2, []), (.if_icmp .eq 63, 3, [90])]),
  (30, [(.iload_n 0, 1, []), (.bipush 68, 2, []), (.if_icmp .eq 57, 3, [90])]),
  (36, [(.iload_n 0, 1, []), (.bipush 91, 2, []), (.if_icmp .lt 9, 3, [48])]),
  (42, [(.iload_n 0, 1, []), (.bipush 102, 2, []), (.if_icmp .le 45, 3, [90])]),
  (48, [(.iload_n 0, 1, []), (.sipush 139, 3, []), (.if_icmp .lt 10, 3, [62])]),
  (55, [(.iload_n 0, 1, []), (.sipush 166, 3, []), (.if_icmp .le 31, 3, [90])]),
  (62, [(.iload_n 0, 1, []), (.sipush 168, 3, []), (.if_icmp .lt 10, 3, [76])]),
  (69, [(.iload_n 0, 1, []), (.sipush 171, 3, []), (.if_icmp .le 17, 3, [90])]),
  (76, [(.iload_n 0, 1, []), (.sipush 174, 3, []), (.if_icmp .lt 14, 3, [94])]),
  (83, [(.iload_n 0, 1, []), (.sipush 191, 3, []), (.if_icmp .gt 7, 3, [94])]),
  (90, [(.iconst 1, 1, []), (.goto 4, 3, [95])]),
  (94, [(.iconst 0, 1, [])]),
  (95, [(.ireturn, 1, [])])]
set_option maxRecDepth 100000 in
theorem ok_M_isRefused : fk_okM 256 B_M_isRefused = true := by decide +kernel
abbrev C_M_isRefused : fkC := [(62, [true])]
set_option maxRecDepth 100000 in
set_option maxHeartbeats 4000000 in
theorem S_M_isRefused {d : Nat} {a0 : Int32} {σ : fkS} {Q : Option Value → fkS → Prop} 
  (h : ((a0 = (42 : Int32) →
    Q (some (.int (1 : Int32))) σ) ∧
   (¬ a0 = (42 : Int32) →
    ((a0 = (43 : Int32) →
      Q (some (.int (1 : Int32))) σ) ∧
     (¬ a0 = (43 : Int32) →
      ((a0 = (56 : Int32) →
        Q (some (.int (1 : Int32))) σ) ∧
       (¬ a0 = (56 : Int32) →
        ((a0 = (57 : Int32) →
          Q (some (.int (1 : Int32))) σ) ∧
         (¬ a0 = (57 : Int32) →
          ((a0 = (67 : Int32) →
            Q (some (.int (1 : Int32))) σ) ∧
           (¬ a0 = (67 : Int32) →
            ((a0 = (68 : Int32) →
              Q (some (.int (1 : Int32))) σ) ∧
             (¬ a0 = (68 : Int32) →
              ((a0 < (91 : Int32) →
                ((a0 < (139 : Int32) →
                  Wq 256 d 62 [some (.int a0)] [] σ Q) ∧
                 (¬ a0 < (139 : Int32) →
                  ((a0 ≤ (166 : Int32) →
                    Q (some (.int (1 : Int32))) σ) ∧
                   (¬ a0 ≤ (166 : Int32) →
                    Wq 256 d 62 [some (.int a0)] [] σ Q))))) ∧
               (¬ a0 < (91 : Int32) →
                ((a0 ≤ (102 : Int32) →
                  Q (some (.int (1 : Int32))) σ) ∧
                 (¬ a0 ≤ (102 : Int32) →
                  ((a0 < (139 : Int32) →
                    Wq 256 d 62 [some (.int a0)] [] σ Q) ∧
                   (¬ a0 < (139 : Int32) →
                    ((a0 ≤ (166 : Int32) →
                      Q (some (.int (1 : Int32))) σ) ∧
                     (¬ a0 ≤ (166 : Int32) →
                      Wq 256 d 62 [some (.int a0)] [] σ Q))))))))))))))))))))) :
  Cl d 256 [.int a0] σ Q := by
  exact Cl.run B_M_isRefused C_M_isRefused 20 fk_q256 ok_M_isRefused rfl h
set_option maxRecDepth 100000 in
set_option maxHeartbeats 4000000 in
theorem S_M_isRefused_62 {d : Nat} {v0 : Int32} {σ : fkS} {Q : Option Value → fkS → Prop} 
  (h : ((v0 < (168 : Int32) →
    ((v0 < (174 : Int32) →
      Q (some (.int (0 : Int32))) σ) ∧
     (¬ v0 < (174 : Int32) →
      (((191 : Int32) < v0 →
        Q (some (.int (0 : Int32))) σ) ∧
       (¬ (191 : Int32) < v0 →
        Q (some (.int (1 : Int32))) σ))))) ∧
   (¬ v0 < (168 : Int32) →
    ((v0 ≤ (171 : Int32) →
      Q (some (.int (1 : Int32))) σ) ∧
     (¬ v0 ≤ (171 : Int32) →
      ((v0 < (174 : Int32) →
        Q (some (.int (0 : Int32))) σ) ∧
       (¬ v0 < (174 : Int32) →
        (((191 : Int32) < v0 →
          Q (some (.int (0 : Int32))) σ) ∧
         (¬ (191 : Int32) < v0 →
          Q (some (.int (1 : Int32))) σ))))))))) :
  Wq 256 d 62 [some (.int v0)] [] σ Q := by
  exact fk_run_sound (B := B_M_isRefused) (C := C_M_isRefused) (n := 20) ok_M_isRefused h
def B_M_signed : fkB := [(0, [(.aload_n 0, 1, []), (.getfield 287, 3, [12, 42, 1919, 0]), (.ifCond .eq 5, 3, [9])]),
  (7, [(.lconst 0, 1, []), (.lreturn, 1, [])]),
  (9, [(.aload_n 0, 1, []), (.getfield 296, 3, [12, 40, 1917, 0]), (.istore_n 2, 1, []), (.iload_n 1, 1, []), (.bipush 32, 2, []), (.if_icmp .ne 7, 3, [24])]),
  (20, [(.iconst 5, 1, []), (.goto 5, 3, [26])]),
  (24, [(.bipush 10, 2, [])]),
  (26, [(.istore_n 3, 1, []), (.lconst 0, 1, []), (.lstore 4, 2, []), (.iconst 0, 1, []), (.istore 6, 2, [])]),
  (33, [(.iload 6, 2, []), (.iload_n 3, 1, []), (.if_icmp .ge 127, 3, [163])]),
  (39, [(.aload_n 0, 1, []), (.getfield 296, 3, [12, 40, 1917, 0]), (.aload_n 0, 1, []), (.getfield 299, 3, [12, 41, 1918, 0]), (.if_icmp .lt 11, 3, [58])]),
  (50, [(.aload_n 0, 1, []), (.iconst (-1), 1, []), (.iload_n 2, 1, []), (.invokevirtual 302, 3, [244, 2, 2335, 0, 0, 12]), (.lconst 0, 1, []), (.lreturn, 1, [])]),
  (58, [(.aload_n 0, 1, []), (.invokevirtual 314, 3, [247, 0, 2347, 0, 1, 12]), (.istore 7, 2, []), (.aload_n 0, 1, []), (.dup, 1, []), (.getfield 296, 3, [12, 40, 1917, 0]), (.iconst 1, 1, []), (.iadd, 1, []), (.putfield 296, 3, [12, 40, 1917, 0]), (.lload 4, 2, []), (.iload 7, 2, []), (.bipush 127, 2, []), (.iand, 1, []), (.i2l, 1, []), (.bipush 7, 2, []), (.iload 6, 2, []), (.imul, 1, []), (.lshl, 1, []), (.lor, 1, []), (.lstore 4, 2, []), (.iload 7, 2, []), (.bipush 127, 2, []), (.if_icmp .le 6, 3, [101])]),
  (98, [(.goto 59, 3, [157])]),
  (101, [(.iload 6, 2, []), (.iload_n 3, 1, []), (.iconst 1, 1, []), (.isub, 1, []), (.if_icmp .ne 15, 3, [121])]),
  (109, [(.iload 7, 2, []), (.iload_n 1, 1, []), (.invokestatic 317, 3, [258, 2, 2392, 0, 1]), (.ifCond .ne 6, 3, [121])]),
  (118, [(.goto 45, 3, [163])]),
  (121, [(.bipush 7, 2, []), (.iload 6, 2, []), (.iconst 1, 1, []), (.iadd, 1, []), (.imul, 1, []), (.istore 8, 2, []), (.iload 8, 2, []), (.bipush 64, 2, []), (.if_icmp .lt 8, 3, [142])]),
  (137, [(.lload 4, 2, []), (.goto 17, 3, [156])]),
  (142, [(.lload 4, 2, []), (.bipush 64, 2, []), (.iload 8, 2, []), (.isub, 1, []), (.lshl, 1, []), (.bipush 64, 2, []), (.iload 8, 2, []), (.isub, 1, []), (.lshr, 1, [])]),
  (156, [(.lreturn, 1, [])]),
  (157, [(.iinc 6 1, 3, []), (.goto (-127), 3, [33])]),
  (163, [(.aload_n 0, 1, []), (.iconst (-1), 1, []), (.iload_n 2, 1, []), (.invokevirtual 302, 3, [244, 2, 2335, 0, 0, 12]), (.lconst 0, 1, []), (.lreturn, 1, [])])]
set_option maxRecDepth 100000 in
theorem ok_M_signed : fk_okM 257 B_M_signed = true := by decide +kernel
abbrev C_M_signed : fkC := [(33, [true, true, true, true, true, false, true, false, false]), (121, [false, false, false, false, true, false, true, false, false])]
set_option maxRecDepth 100000 in
set_option maxHeartbeats 4000000 in
theorem S_M_signed {d : Nat} {a0 : Int32} {σ : fkS} {Q : Option Value → fkS → Prop} 
  (h : (((σ.1 103 42) = 0 →
    ((¬ a0 = (32 : Int32) →
      Wq 257 (d + 1) 33 [some (.ref 103), some (.int a0), some (.int (σ.1 103 40)), some (.int (10 : Int32)), some (.long (0 : Int64)), none, some (.int (0 : Int32)), none, none] [] σ Q) ∧
     (a0 = (32 : Int32) →
      Wq 257 (d + 1) 33 [some (.ref 103), some (.int a0), some (.int (σ.1 103 40)), some (.int (5 : Int32)), some (.long (0 : Int64)), none, some (.int (0 : Int32)), none, none] [] σ Q))) ∧
   (¬ (σ.1 103 42) = 0 →
    Q (some (.long (0 : Int64))) σ))) :
  Cl (d + 1) 257 [.ref 103, .int a0] σ Q := by
  exact Cl.run B_M_signed C_M_signed 23 fk_q257 ok_M_signed rfl h
set_option maxRecDepth 100000 in
set_option maxHeartbeats 4000000 in
theorem S_M_signed_33 {d : Nat} {v1 : Int32} {v2 : Int32} {v3 : Int32} {v4 : Int64} {v6 : Int32} {σ : fkS} {Q : Option Value → fkS → Prop} 
  (h : ((v3 ≤ v6 →
    (Cv d 244 [.ref 103, .int (-1 : Int32), .int v2] σ (fun σ1 =>
    Q (some (.long (0 : Int64))) σ1))) ∧
   (¬ v3 ≤ v6 →
    (((σ.1 103 40) < (σ.1 103 41) →
      (Ci d 247 [.ref 103] σ (fun x3 σ2 =>
      ((x3 ≤ (127 : Int32) →
        ((¬ v6 = (v3 - (1 : Int32)) →
          Wq 257 (d + 1) 121 [none, none, none, none, some (.long (v4 ||| (fk_lshl ((x3 &&& (127 : Int32)).toInt64) ((7 : Int32) * v6)))), none, some (.int v6), none, none] [] (sI σ2 103 40 ((σ2.1 103 40) + (1 : Int32))) Q) ∧
         (v6 = (v3 - (1 : Int32)) →
          (Ci d 258 [.int x3, .int v1] (sI σ2 103 40 ((σ2.1 103 40) + (1 : Int32))) (fun x5 σ4 =>
          ((¬ x5 = 0 →
            Wq 257 (d + 1) 121 [none, none, none, none, some (.long (v4 ||| (fk_lshl ((x3 &&& (127 : Int32)).toInt64) ((7 : Int32) * v6)))), none, some (.int v6), none, none] [] σ4 Q) ∧
           (x5 = 0 →
            (Cv d 244 [.ref 103, .int (-1 : Int32), .int v2] σ4 (fun σ6 =>
            Q (some (.long (0 : Int64))) σ6))))))))) ∧
       (¬ x3 ≤ (127 : Int32) →
        Wq 257 (d + 1) 33 [some (.ref 103), some (.int v1), some (.int v2), some (.int v3), some (.long (v4 ||| (fk_lshl ((x3 &&& (127 : Int32)).toInt64) ((7 : Int32) * v6)))), none, some (.int (v6 + (1 : Int32))), none, none] [] (sI σ2 103 40 ((σ2.1 103 40) + (1 : Int32))) Q))))) ∧
     (¬ (σ.1 103 40) < (σ.1 103 41) →
      (Cv d 244 [.ref 103, .int (-1 : Int32), .int v2] σ (fun σ7 =>
      Q (some (.long (0 : Int64))) σ7))))))) :
  Wq 257 (d + 1) 33 [some (.ref 103), some (.int v1), some (.int v2), some (.int v3), some (.long v4), none, some (.int v6), none, none] [] σ Q := by
  exact fk_run_sound (B := B_M_signed) (C := C_M_signed) (n := 23) ok_M_signed h
set_option maxRecDepth 100000 in
set_option maxHeartbeats 4000000 in
theorem S_M_signed_121 {d : Nat} {v4 : Int64} {v6 : Int32} {σ : fkS} {Q : Option Value → fkS → Prop} 
  (h : ((((7 : Int32) * (v6 + (1 : Int32))) < (64 : Int32) →
    Q (some (.long (fk_lshr (fk_lshl v4 ((64 : Int32) - ((7 : Int32) * (v6 + (1 : Int32))))) ((64 : Int32) - ((7 : Int32) * (v6 + (1 : Int32))))))) σ) ∧
   (¬ ((7 : Int32) * (v6 + (1 : Int32))) < (64 : Int32) →
    Q (some (.long v4)) σ))) :
  Wq 257 (d + 1) 121 [none, none, none, none, some (.long v4), none, some (.int v6), none, none] [] σ Q := by
  exact fk_run_sound (B := B_M_signed) (C := C_M_signed) (n := 23) ok_M_signed h
def B_M_isLikeSign : fkB := [(0, [(.iload_n 1, 1, []), (.bipush 32, 2, []), (.if_icmp .ne 9, 3, [12])]),
  (6, [(.iload_n 0, 1, []), (.iconst 3, 1, []), (.ishr, 1, []), (.goto 4, 3, [13])]),
  (12, [(.iload_n 0, 1, [])]),
  (13, [(.istore_n 2, 1, []), (.iload_n 2, 1, []), (.ifCond .eq 20, 3, [35])]),
  (18, [(.iload_n 2, 1, []), (.iload_n 1, 1, []), (.bipush 32, 2, []), (.if_icmp .ne 8, 3, [30])]),
  (25, [(.bipush 15, 2, []), (.goto 5, 3, [32])]),
  (30, [(.bipush 127, 2, [])]),
  (32, [(.if_icmp .ne 7, 3, [39])]),
  (35, [(.iconst 1, 1, []), (.goto 4, 3, [40])]),
  (39, [(.iconst 0, 1, [])]),
  (40, [(.ireturn, 1, [])])]
set_option maxRecDepth 100000 in
theorem ok_M_isLikeSign : fk_okM 258 B_M_isLikeSign = true := by decide +kernel
abbrev C_M_isLikeSign : fkC := [(13, [false, true, false])]
set_option maxRecDepth 100000 in
set_option maxHeartbeats 4000000 in
theorem S_M_isLikeSign {d : Nat} {a0 : Int32} {a1 : Int32} {σ : fkS} {Q : Option Value → fkS → Prop} 
  (h : ((¬ a1 = (32 : Int32) →
    Wq 258 d 13 [none, some (.int a1), none] [.int a0] σ Q) ∧
   (a1 = (32 : Int32) →
    Wq 258 d 13 [none, some (.int a1), none] [.int (a0 >>> ((3 : Int32) &&& 31))] σ Q))) :
  Cl d 258 [.int a0, .int a1] σ Q := by
  exact Cl.run B_M_isLikeSign C_M_isLikeSign 14 fk_q258 ok_M_isLikeSign rfl h
set_option maxRecDepth 100000 in
set_option maxHeartbeats 4000000 in
theorem S_M_isLikeSign_13 {d : Nat} {v1 : Int32} {s0 : Int32} {σ : fkS} {Q : Option Value → fkS → Prop} 
  (h : ((s0 = 0 →
    Q (some (.int (1 : Int32))) σ) ∧
   (¬ s0 = 0 →
    ((¬ v1 = (32 : Int32) →
      ((¬ s0 = (127 : Int32) →
        Q (some (.int (0 : Int32))) σ) ∧
       (s0 = (127 : Int32) →
        Q (some (.int (1 : Int32))) σ))) ∧
     (v1 = (32 : Int32) →
      ((¬ s0 = (15 : Int32) →
        Q (some (.int (0 : Int32))) σ) ∧
       (s0 = (15 : Int32) →
        Q (some (.int (1 : Int32))) σ))))))) :
  Wq 258 d 13 [none, some (.int v1), none] [.int s0] σ Q := by
  exact fk_run_sound (B := B_M_isLikeSign) (C := C_M_isLikeSign) (n := 14) ok_M_isLikeSign h
def B_M_exportOf : fkB := [(0, [(.aload_n 0, 1, []), (.getfield 296, 3, [12, 40, 1917, 0]), (.istore_n 2, 1, []), (.aload_n 0, 1, []), (.getfield 96, 3, [12, 29, 1906, 0]), (.iload_n 1, 1, []), (.aload_n 0, 1, []), (.invokevirtual 306, 3, [243, 0, 2331, 0, 1, 12]), (.iastore, 1, []), (.aload_n 0, 1, []), (.getfield 96, 3, [12, 29, 1906, 0]), (.iload_n 1, 1, []), (.iaload, 1, []), (.iconst 3, 1, []), (.if_icmp .le 9, 3, [31])]),
  (25, [(.aload_n 0, 1, []), (.iconst (-1), 1, []), (.iload_n 2, 1, []), (.invokevirtual 302, 3, [244, 2, 2335, 0, 0, 12])]),
  (31, [(.aload_n 0, 1, []), (.getfield 72, 3, [12, 21, 1898, 0]), (.iload_n 1, 1, []), (.aload_n 0, 1, []), (.invokevirtual 321, 3, [246, 0, 2343, 0, 2, 12]), (.lastore, 1, []), (.return_, 1, [])])]
set_option maxRecDepth 100000 in
theorem ok_M_exportOf : fk_okM 259 B_M_exportOf = true := by decide +kernel
abbrev C_M_exportOf : fkC := []
set_option maxRecDepth 100000 in
set_option maxHeartbeats 4000000 in
theorem S_M_exportOf {d : Nat} {a0 : Int32} {σ : fkS} {Q : Option Value → fkS → Prop} 
  (h : (Ci d 243 [.ref 103] σ (fun x2 σ1 =>
  (vp_in a0 120 ∧
  (vp_in a0 120 ∧
  ((((sI σ1 131 a0.toNatClampNeg x2).1 131 a0.toNatClampNeg) ≤ (3 : Int32) →
    (Cj d 246 [.ref 103] (sI σ1 131 a0.toNatClampNeg x2) (fun x4 σ3 =>
    (vp_in a0 120 ∧
    Q none (sL σ3 123 a0.toNatClampNeg x4))))) ∧
   (¬ ((sI σ1 131 a0.toNatClampNeg x2).1 131 a0.toNatClampNeg) ≤ (3 : Int32) →
    (Cv d 244 [.ref 103, .int (-1 : Int32), .int (σ.1 103 40)] (sI σ1 131 a0.toNatClampNeg x2) (fun σ5 =>
    (Cj d 246 [.ref 103] σ5 (fun x7 σ6 =>
    (vp_in a0 120 ∧
    Q none (sL σ6 123 a0.toNatClampNeg x7))))))))))))) :
  Cl (d + 1) 259 [.ref 103, .int a0] σ Q := by
  exact Cl.run B_M_exportOf C_M_exportOf 6 fk_q259 ok_M_exportOf rfl h
def B_M_element : fkB := [(0, [(.aload_n 0, 1, []), (.getfield 296, 3, [12, 40, 1917, 0]), (.istore_n 2, 1, []), (.aload_n 0, 1, []), (.invokevirtual 321, 3, [246, 0, 2343, 0, 2, 12]), (.lconst 0, 1, []), (.lcmp, 1, []), (.ifCond .eq 9, 3, [20])]),
  (14, [(.aload_n 0, 1, []), (.iconst (-1), 1, []), (.iload_n 2, 1, []), (.invokevirtual 302, 3, [244, 2, 2335, 0, 0, 12])]),
  (20, [(.aload_n 0, 1, []), (.getfield 99, 3, [12, 30, 1907, 0]), (.iload_n 1, 1, []), (.aload_n 0, 1, []), (.invokevirtual 358, 3, [255, 0, 2381, 0, 1, 12]), (.iastore, 1, []), (.aload_n 0, 1, []), (.getfield 75, 3, [12, 22, 1899, 0]), (.iload_n 1, 1, []), (.aload_n 0, 1, []), (.getfield 361, 3, [12, 45, 1922, 0]), (.ldc2_w 384, 3, [4294967295, 2403]), (.land, 1, []), (.lastore, 1, []), (.aload_n 0, 1, []), (.getfield 102, 3, [12, 31, 1908, 0]), (.iload_n 1, 1, []), (.aload_n 0, 1, []), (.invokevirtual 339, 3, [250, 0, 2359, 0, 1, 12]), (.iastore, 1, []), (.iconst 0, 1, []), (.istore_n 3, 1, [])]),
  (56, [(.iload_n 3, 1, []), (.aload_n 0, 1, []), (.getfield 102, 3, [12, 31, 1908, 0]), (.iload_n 1, 1, []), (.iaload, 1, []), (.if_icmp .ge 31, 3, [94])]),
  (66, [(.aload_n 0, 1, []), (.getfield 287, 3, [12, 42, 1919, 0]), (.ifCond .ne 24, 3, [94])]),
  (73, [(.aload_n 0, 1, []), (.getfield 78, 3, [12, 23, 1900, 0]), (.bipush 60, 2, []), (.iload_n 1, 1, []), (.imul, 1, []), (.iload_n 3, 1, []), (.iadd, 1, []), (.aload_n 0, 1, []), (.invokevirtual 321, 3, [246, 0, 2343, 0, 2, 12]), (.lastore, 1, []), (.iinc 3 1, 3, []), (.goto (-35), 3, [56])]),
  (94, [(.return_, 1, [])])]
set_option maxRecDepth 100000 in
theorem ok_M_element : fk_okM 260 B_M_element = true := by decide +kernel
abbrev C_M_element : fkC := [(20, [true, true, false, false]), (56, [true, true, false, true])]
set_option maxRecDepth 100000 in
set_option maxHeartbeats 4000000 in
theorem S_M_element {d : Nat} {a0 : Int32} {σ : fkS} {Q : Option Value → fkS → Prop} 
  (h : (Cj d 246 [.ref 103] σ (fun x2 σ1 =>
  (((lg_cmp x2 (0 : Int64)) = 0 →
    Wq 260 (d + 1) 20 [some (.ref 103), some (.int a0), none, none] [] σ1 Q) ∧
   (¬ (lg_cmp x2 (0 : Int64)) = 0 →
    (Cv d 244 [.ref 103, .int (-1 : Int32), .int (σ.1 103 40)] σ1 (fun σ3 =>
    Wq 260 (d + 1) 20 [some (.ref 103), some (.int a0), none, none] [] σ3 Q))))))) :
  Cl (d + 1) 260 [.ref 103, .int a0] σ Q := by
  exact Cl.run B_M_element C_M_element 10 fk_q260 ok_M_element rfl h
set_option maxRecDepth 100000 in
set_option maxHeartbeats 4000000 in
theorem S_M_element_20 {d : Nat} {v1 : Int32} {σ : fkS} {Q : Option Value → fkS → Prop} 
  (h : (Ci d 255 [.ref 103] σ (fun x2 σ1 =>
  (vp_in v1 120 ∧
  (vp_in v1 120 ∧
  (Ci d 250 [.ref 103] (sL (sI σ1 132 v1.toNatClampNeg x2) 124 v1.toNatClampNeg ((σ1.2.1 103 45) &&& (Int64.ofNat 4294967295))) (fun x4 σ3 =>
  (vp_in v1 120 ∧
  Wq 260 (d + 1) 56 [some (.ref 103), some (.int v1), none, some (.int (0 : Int32))] [] (sI σ3 133 v1.toNatClampNeg x4) Q)))))))) :
  Wq 260 (d + 1) 20 [some (.ref 103), some (.int v1), none, none] [] σ Q := by
  exact fk_run_sound (B := B_M_element) (C := C_M_element) (n := 10) ok_M_element h
set_option maxRecDepth 100000 in
set_option maxHeartbeats 4000000 in
theorem S_M_element_56 {d : Nat} {v1 : Int32} {v3 : Int32} {σ : fkS} {Q : Option Value → fkS → Prop} 
  (h : (vp_in v1 120 ∧
  (((σ.1 133 v1.toNatClampNeg) ≤ v3 →
    Q none σ) ∧
   (¬ (σ.1 133 v1.toNatClampNeg) ≤ v3 →
    ((¬ (σ.1 103 42) = 0 →
      Q none σ) ∧
     ((σ.1 103 42) = 0 →
      (Cj d 246 [.ref 103] σ (fun x2 σ1 =>
      (vp_in (((60 : Int32) * v1) + v3) 7200 ∧
      Wq 260 (d + 1) 56 [some (.ref 103), some (.int v1), none, some (.int (v3 + (1 : Int32)))] [] (sL σ1 125 ((((60 : Int32) * v1) + v3).toNatClampNeg) x2) Q))))))))) :
  Wq 260 (d + 1) 56 [some (.ref 103), some (.int v1), none, some (.int v3)] [] σ Q := by
  exact fk_run_sound (B := B_M_element) (C := C_M_element) (n := 10) ok_M_element h
def B_M_code : fkB := [(0, [(.aload_n 0, 1, []), (.invokevirtual 330, 3, [245, 0, 2339, 0, 1, 12]), (.istore_n 2, 1, []), (.aload_n 0, 1, []), (.getfield 287, 3, [12, 42, 1919, 0]), (.ifCond .eq 4, 3, [13])]),
  (12, [(.return_, 1, [])]),
  (13, [(.aload_n 0, 1, []), (.getfield 299, 3, [12, 41, 1918, 0]), (.istore_n 3, 1, []), (.aload_n 0, 1, []), (.aload_n 0, 1, []), (.getfield 296, 3, [12, 40, 1917, 0]), (.iload_n 2, 1, []), (.iadd, 1, []), (.putfield 299, 3, [12, 41, 1918, 0]), (.aload_n 0, 1, []), (.invokevirtual 339, 3, [250, 0, 2359, 0, 1, 12]), (.istore 4, 2, []), (.aload_n 0, 1, []), (.getfield 105, 3, [12, 32, 1909, 0]), (.iload_n 1, 1, []), (.iconst 0, 1, []), (.iastore, 1, []), (.iconst 0, 1, []), (.istore 5, 2, [])]),
  (44, [(.iload 5, 2, []), (.iload 4, 2, []), (.if_icmp .ge 111, 3, [159])]),
  (51, [(.aload_n 0, 1, []), (.getfield 287, 3, [12, 42, 1919, 0]), (.ifCond .ne 104, 3, [159])]),
  (58, [(.aload_n 0, 1, []), (.getfield 296, 3, [12, 40, 1917, 0]), (.istore 6, 2, []), (.aload_n 0, 1, []), (.invokevirtual 321, 3, [246, 0, 2343, 0, 2, 12]), (.lstore 7, 2, []), (.lload 7, 2, []), (.bipush 50, 2, []), (.aload_n 0, 1, []), (.getfield 105, 3, [12, 32, 1909, 0]), (.iload_n 1, 1, []), (.iaload, 1, []), (.isub, 1, []), (.i2l, 1, []), (.lcmp, 1, []), (.ifCond .le 11, 3, [94])]),
  (86, [(.aload_n 0, 1, []), (.bipush (-2), 2, []), (.iload 6, 2, []), (.invokevirtual 302, 3, [244, 2, 2335, 0, 0, 12])]),
  (94, [(.aload_n 0, 1, []), (.invokevirtual 355, 3, [253, 0, 2372, 0, 1, 12]), (.istore 9, 2, []), (.iconst 0, 1, []), (.istore 10, 2, [])]),
  (103, [(.iload 10, 2, []), (.i2l, 1, []), (.lload 7, 2, []), (.lcmp, 1, []), (.ifCond .ge 44, 3, [153])]),
  (112, [(.aload_n 0, 1, []), (.getfield 287, 3, [12, 42, 1919, 0]), (.ifCond .ne 37, 3, [153])]),
  (119, [(.aload_n 0, 1, []), (.getfield 108, 3, [12, 33, 1910, 0]), (.bipush 50, 2, []), (.iload_n 1, 1, []), (.imul, 1, []), (.aload_n 0, 1, []), (.getfield 105, 3, [12, 32, 1909, 0]), (.iload_n 1, 1, []), (.iaload, 1, []), (.iadd, 1, []), (.iload 9, 2, []), (.iastore, 1, []), (.aload_n 0, 1, []), (.getfield 105, 3, [12, 32, 1909, 0]), (.iload_n 1, 1, []), (.dup2, 1, []), (.iaload, 1, []), (.iconst 1, 1, []), (.iadd, 1, []), (.iastore, 1, []), (.iinc 10 1, 3, []), (.goto (-47), 3, [103])]),
  (153, [(.iinc 5 1, 3, []), (.goto (-112), 3, [44])]),
  (159, [(.aload_n 0, 1, []), (.getfield 111, 3, [12, 34, 1911, 0]), (.iload_n 1, 1, []), (.aload_n 0, 1, []), (.getfield 296, 3, [12, 40, 1917, 0]), (.iastore, 1, []), (.aload_n 0, 1, []), (.invokevirtual 386, 3, [262, 0, 2408, 0, 0, 12]), (.aload_n 0, 1, []), (.getfield 287, 3, [12, 42, 1919, 0]), (.ifCond .ne 23, 3, [200])]),
  (180, [(.aload_n 0, 1, []), (.getfield 296, 3, [12, 40, 1917, 0]), (.aload_n 0, 1, []), (.getfield 299, 3, [12, 41, 1918, 0]), (.if_icmp .ge 12, 3, [200])]),
  (191, [(.aload_n 0, 1, []), (.iconst (-1), 1, []), (.aload_n 0, 1, []), (.getfield 296, 3, [12, 40, 1917, 0]), (.invokevirtual 302, 3, [244, 2, 2335, 0, 0, 12])]),
  (200, [(.aload_n 0, 1, []), (.iload_n 3, 1, []), (.putfield 299, 3, [12, 41, 1918, 0]), (.return_, 1, [])])]
set_option maxRecDepth 100000 in
theorem ok_M_code : fk_okM 261 B_M_code = true := by decide +kernel
abbrev C_M_code : fkC := [(44, [true, true, false, true, true, true, false, false, false, false, false]), (103, [true, true, false, true, true, true, false, true, false, true, true]), (159, [true, true, false, true, false, false, false, false, false, false, false])]
set_option maxRecDepth 100000 in
set_option maxHeartbeats 4000000 in
theorem S_M_code {d : Nat} {a0 : Int32} {σ : fkS} {Q : Option Value → fkS → Prop} 
  (h : (Ci d 245 [.ref 103] σ (fun x2 σ1 =>
  (((σ1.1 103 42) = 0 →
    (Ci d 250 [.ref 103] (sI σ1 103 41 ((σ1.1 103 40) + x2)) (fun x4 σ3 =>
    (vp_in a0 120 ∧
    Wq 261 (d + 1) 44 [some (.ref 103), some (.int a0), none, some (.int (σ1.1 103 41)), some (.int x4), some (.int (0 : Int32)), none, none, none, none, none] [] (sI σ3 134 a0.toNatClampNeg (0 : Int32)) Q)))) ∧
   (¬ (σ1.1 103 42) = 0 →
    Q none σ1))))) :
  Cl (d + 1) 261 [.ref 103, .int a0] σ Q := by
  exact Cl.run B_M_code C_M_code 19 fk_q261 ok_M_code rfl h
set_option maxRecDepth 100000 in
set_option maxHeartbeats 4000000 in
theorem S_M_code_44 {d : Nat} {v1 : Int32} {v3 : Int32} {v4 : Int32} {v5 : Int32} {σ : fkS} {Q : Option Value → fkS → Prop} 
  (h : ((v4 ≤ v5 →
    Wq 261 (d + 1) 159 [some (.ref 103), some (.int v1), none, some (.int v3), none, none, none, none, none, none, none] [] σ Q) ∧
   (¬ v4 ≤ v5 →
    ((¬ (σ.1 103 42) = 0 →
      Wq 261 (d + 1) 159 [some (.ref 103), some (.int v1), none, some (.int v3), none, none, none, none, none, none, none] [] σ Q) ∧
     ((σ.1 103 42) = 0 →
      (Cj d 246 [.ref 103] σ (fun x2 σ1 =>
      (vp_in v1 120 ∧
      (((lg_cmp x2 (((50 : Int32) - (σ1.1 134 v1.toNatClampNeg)).toInt64)) ≤ 0 →
        (Ci d 253 [.ref 103] σ1 (fun x4 σ3 =>
        Wq 261 (d + 1) 103 [some (.ref 103), some (.int v1), none, some (.int v3), some (.int v4), some (.int v5), none, some (.long x2), none, some (.int x4), some (.int (0 : Int32))] [] σ3 Q))) ∧
       (¬ (lg_cmp x2 (((50 : Int32) - (σ1.1 134 v1.toNatClampNeg)).toInt64)) ≤ 0 →
        (Cv d 244 [.ref 103, .int (-2 : Int32), .int (σ.1 103 40)] σ1 (fun σ5 =>
        (Ci d 253 [.ref 103] σ5 (fun x7 σ6 =>
        Wq 261 (d + 1) 103 [some (.ref 103), some (.int v1), none, some (.int v3), some (.int v4), some (.int v5), none, some (.long x2), none, some (.int x7), some (.int (0 : Int32))] [] σ6 Q)))))))))))))) :
  Wq 261 (d + 1) 44 [some (.ref 103), some (.int v1), none, some (.int v3), some (.int v4), some (.int v5), none, none, none, none, none] [] σ Q := by
  exact fk_run_sound (B := B_M_code) (C := C_M_code) (n := 19) ok_M_code h
set_option maxRecDepth 100000 in
set_option maxHeartbeats 4000000 in
theorem S_M_code_103 {d : Nat} {v1 : Int32} {v3 : Int32} {v4 : Int32} {v5 : Int32} {v7 : Int64} {v9 : Int32} {v10 : Int32} {σ : fkS} {Q : Option Value → fkS → Prop} 
  (h : ((0 ≤ (lg_cmp v10.toInt64 v7) →
    Wq 261 (d + 1) 44 [some (.ref 103), some (.int v1), none, some (.int v3), some (.int v4), some (.int (v5 + (1 : Int32))), none, none, none, none, none] [] σ Q) ∧
   (¬ 0 ≤ (lg_cmp v10.toInt64 v7) →
    ((¬ (σ.1 103 42) = 0 →
      Wq 261 (d + 1) 44 [some (.ref 103), some (.int v1), none, some (.int v3), some (.int v4), some (.int (v5 + (1 : Int32))), none, none, none, none, none] [] σ Q) ∧
     ((σ.1 103 42) = 0 →
      (vp_in v1 120 ∧
      (vp_in (((50 : Int32) * v1) + (σ.1 134 v1.toNatClampNeg)) 6000 ∧
      (vp_in v1 120 ∧
      (vp_in v1 120 ∧
      Wq 261 (d + 1) 103 [some (.ref 103), some (.int v1), none, some (.int v3), some (.int v4), some (.int v5), none, some (.long v7), none, some (.int v9), some (.int (v10 + (1 : Int32)))] [] (sI (sI σ 135 ((((50 : Int32) * v1) + (σ.1 134 v1.toNatClampNeg)).toNatClampNeg) v9) 134 v1.toNatClampNeg ((σ.1 134 v1.toNatClampNeg) + (1 : Int32))) Q))))))))) :
  Wq 261 (d + 1) 103 [some (.ref 103), some (.int v1), none, some (.int v3), some (.int v4), some (.int v5), none, some (.long v7), none, some (.int v9), some (.int v10)] [] σ Q := by
  exact fk_run_sound (B := B_M_code) (C := C_M_code) (n := 19) ok_M_code h
set_option maxRecDepth 100000 in
set_option maxHeartbeats 4000000 in
theorem S_M_code_159 {d : Nat} {v1 : Int32} {v3 : Int32} {σ : fkS} {Q : Option Value → fkS → Prop} 
  (h : (vp_in v1 120 ∧
  (Cv d 262 [.ref 103] (sI σ 136 v1.toNatClampNeg (σ.1 103 40)) (fun σ1 =>
  ((¬ (σ1.1 103 42) = 0 →
    Q none (sI σ1 103 41 v3)) ∧
   ((σ1.1 103 42) = 0 →
    (((σ1.1 103 41) ≤ (σ1.1 103 40) →
      Q none (sI σ1 103 41 v3)) ∧
     (¬ (σ1.1 103 41) ≤ (σ1.1 103 40) →
      (Cv d 244 [.ref 103, .int (-1 : Int32), .int (σ1.1 103 40)] σ1 (fun σ2 =>
      Q none (sI σ2 103 41 v3))))))))))) :
  Wq 261 (d + 1) 159 [some (.ref 103), some (.int v1), none, some (.int v3), none, none, none, none, none, none, none] [] σ Q := by
  exact fk_run_sound (B := B_M_code) (C := C_M_code) (n := 19) ok_M_code h
def B_M_expression : fkB := [(0, [(.iconst 0, 1, []), (.istore_n 1, 1, [])]),
  (2, [(.aload_n 0, 1, []), (.getfield 287, 3, [12, 42, 1919, 0]), (.ifCond .ne 284, 3, [290])]),
  (9, [(.aload_n 0, 1, []), (.getfield 296, 3, [12, 40, 1917, 0]), (.istore_n 2, 1, []), (.aload_n 0, 1, []), (.invokevirtual 306, 3, [243, 0, 2331, 0, 1, 12]), (.istore_n 3, 1, []), (.aload_n 0, 1, []), (.getfield 287, 3, [12, 42, 1919, 0]), (.ifCond .eq 4, 3, [27])]),
  (26, [(.return_, 1, [])]),
  (27, [(.iload_n 3, 1, []), (.bipush 11, 2, []), (.if_icmp .ne 35, 3, [65])]),
  (33, [(.iload_n 1, 1, []), (.ifCond .ne 4, 3, [38])]),
  (37, [(.return_, 1, [])]),
  (38, [(.iinc 1 (-1), 3, []), (.aload_n 0, 1, []), (.getfield 117, 3, [12, 36, 1913, 0]), (.sipush 4000, 3, []), (.aload_n 0, 1, []), (.getfield 293, 3, [12, 38, 1915, 0]), (.imul, 1, []), (.aload_n 0, 1, []), (.getfield 120, 3, [12, 46, 1923, 0]), (.iload_n 1, 1, []), (.iaload, 1, []), (.iadd, 1, []), (.iload_n 2, 1, []), (.iastore, 1, []), (.goto 225, 3, [287])]),
  (65, [(.iload_n 3, 1, []), (.iconst 5, 1, []), (.if_icmp .ne 93, 3, [160])]),
  (70, [(.iload_n 1, 1, []), (.ifCond .eq 54, 3, [125])]),
  (74, [(.aload_n 0, 1, []), (.getfield 17, 3, [12, 3, 1880, 0]), (.sipush 4000, 3, []), (.aload_n 0, 1, []), (.getfield 293, 3, [12, 38, 1915, 0]), (.imul, 1, []), (.aload_n 0, 1, []), (.getfield 120, 3, [12, 46, 1923, 0]), (.iload_n 1, 1, []), (.iconst 1, 1, []), (.isub, 1, []), (.iaload, 1, []), (.iadd, 1, []), (.iaload, 1, []), (.iconst 4, 1, []), (.if_icmp .ne 28, 3, [125])]),
  (100, [(.aload_n 0, 1, []), (.getfield 114, 3, [12, 35, 1912, 0]), (.sipush 4000, 3, []), (.aload_n 0, 1, []), (.getfield 293, 3, [12, 38, 1915, 0]), (.imul, 1, []), (.aload_n 0, 1, []), (.getfield 120, 3, [12, 46, 1923, 0]), (.iload_n 1, 1, []), (.iconst 1, 1, []), (.isub, 1, []), (.iaload, 1, []), (.iadd, 1, []), (.iaload, 1, []), (.ifCond .lt 12, 3, [134])]),
  (125, [(.aload_n 0, 1, []), (.iconst (-1), 1, []), (.iload_n 2, 1, []), (.invokevirtual 302, 3, [244, 2, 2335, 0, 0, 12]), (.goto 156, 3, [287])]),
  (134, [(.aload_n 0, 1, []), (.getfield 114, 3, [12, 35, 1912, 0]), (.sipush 4000, 3, []), (.aload_n 0, 1, []), (.getfield 293, 3, [12, 38, 1915, 0]), (.imul, 1, []), (.aload_n 0, 1, []), (.getfield 120, 3, [12, 46, 1923, 0]), (.iload_n 1, 1, []), (.iconst 1, 1, []), (.isub, 1, []), (.iaload, 1, []), (.iadd, 1, []), (.iload_n 2, 1, []), (.iastore, 1, []), (.goto 130, 3, [287])]),
  (160, [(.iload_n 3, 1, []), (.iconst 2, 1, []), (.if_icmp .lt 119, 3, [281])]),
  (165, [(.iload_n 3, 1, []), (.iconst 4, 1, []), (.if_icmp .gt 114, 3, [281])]),
  (170, [(.iload_n 1, 1, []), (.bipush 20, 2, []), (.if_icmp .ne 11, 3, [184])]),
  (176, [(.aload_n 0, 1, []), (.bipush (-2), 2, []), (.iload_n 2, 1, []), (.invokevirtual 302, 3, [244, 2, 2335, 0, 0, 12]), (.return_, 1, [])]),
  (184, [(.aload_n 0, 1, []), (.getfield 120, 3, [12, 46, 1923, 0]), (.iload_n 1, 1, []), (.iload_n 2, 1, []), (.iastore, 1, []), (.aload_n 0, 1, []), (.getfield 114, 3, [12, 35, 1912, 0]), (.sipush 4000, 3, []), (.aload_n 0, 1, []), (.getfield 293, 3, [12, 38, 1915, 0]), (.imul, 1, []), (.iload_n 2, 1, []), (.iadd, 1, []), (.iconst (-1), 1, []), (.iastore, 1, []), (.iinc 1 1, 3, []), (.aload_n 0, 1, []), (.getfield 296, 3, [12, 40, 1917, 0]), (.istore 4, 2, []), (.aload_n 0, 1, []), (.getfield 296, 3, [12, 40, 1917, 0]), (.aload_n 0, 1, []), (.getfield 299, 3, [12, 41, 1918, 0]), (.if_icmp .ge 25, 3, [249])]),
  (227, [(.aload_n 0, 1, []), (.invokevirtual 314, 3, [247, 0, 2347, 0, 1, 12]), (.bipush 64, 2, []), (.if_icmp .ne 16, 3, [249])]),
  (236, [(.aload_n 0, 1, []), (.dup, 1, []), (.getfield 296, 3, [12, 40, 1917, 0]), (.iconst 1, 1, []), (.iadd, 1, []), (.putfield 296, 3, [12, 40, 1917, 0]), (.goto 32, 3, [278])]),
  (249, [(.aload_n 0, 1, []), (.getfield 296, 3, [12, 40, 1917, 0]), (.aload_n 0, 1, []), (.getfield 299, 3, [12, 41, 1918, 0]), (.if_icmp .lt 15, 3, [272])]),
  (260, [(.aload_n 0, 1, []), (.iconst (-1), 1, []), (.aload_n 0, 1, []), (.getfield 299, 3, [12, 41, 1918, 0]), (.invokevirtual 302, 3, [244, 2, 2335, 0, 0, 12]), (.goto 9, 3, [278])]),
  (272, [(.aload_n 0, 1, []), (.invokevirtual 355, 3, [253, 0, 2372, 0, 1, 12]), (.istore 4, 2, [])]),
  (278, [(.goto 9, 3, [287])]),
  (281, [(.aload_n 0, 1, []), (.iload_n 3, 1, []), (.iload_n 2, 1, []), (.invokevirtual 389, 3, [263, 2, 2412, 0, 0, 12])]),
  (287, [(.goto (-285), 3, [2])]),
  (290, [(.return_, 1, [])])]
set_option maxRecDepth 100000 in
theorem ok_M_expression : fk_okM 262 B_M_expression = true := by decide +kernel
abbrev C_M_expression : fkC := [(2, [true, true, false, false, false]), (249, [true, true, false, false, false])]
set_option maxRecDepth 100000 in
set_option maxHeartbeats 4000000 in
theorem S_M_expression {d : Nat}  {σ : fkS} {Q : Option Value → fkS → Prop} 
  (h : Wq 262 (d + 1) 2 [some (.ref 103), some (.int (0 : Int32)), none, none, none] [] σ Q) :
  Cl (d + 1) 262 [.ref 103] σ Q := by
  exact Cl.run B_M_expression C_M_expression 31 fk_q262 ok_M_expression rfl h
set_option maxRecDepth 100000 in
set_option maxHeartbeats 4000000 in
theorem S_M_expression_2 {d : Nat} {v1 : Int32} {σ : fkS} {Q : Option Value → fkS → Prop} 
  (h : ((¬ (σ.1 103 42) = 0 →
    Q none σ) ∧
   ((σ.1 103 42) = 0 →
    (Ci d 243 [.ref 103] σ (fun x2 σ1 =>
    (((σ1.1 103 42) = 0 →
      ((¬ x2 = (11 : Int32) →
        ((¬ x2 = (5 : Int32) →
          ((x2 < (2 : Int32) →
            (Cv d 263 [.ref 103, .int x2, .int (σ.1 103 40)] σ1 (fun σ3 =>
            Wq 262 (d + 1) 2 [some (.ref 103), some (.int v1), none, none, none] [] σ3 Q))) ∧
           (¬ x2 < (2 : Int32) →
            (((4 : Int32) < x2 →
              (Cv d 263 [.ref 103, .int x2, .int (σ.1 103 40)] σ1 (fun σ4 =>
              Wq 262 (d + 1) 2 [some (.ref 103), some (.int v1), none, none, none] [] σ4 Q))) ∧
             (¬ (4 : Int32) < x2 →
              ((¬ v1 = (20 : Int32) →
                (vp_in v1 21 ∧
                (vp_in (((4000 : Int32) * (σ1.1 103 38)) + (σ.1 103 40)) 8000 ∧
                (((σ1.1 103 41) ≤ (σ1.1 103 40) →
                  Wq 262 (d + 1) 249 [some (.ref 103), some (.int (v1 + (1 : Int32))), none, none, none] [] (sI (sI σ1 139 v1.toNatClampNeg (σ.1 103 40)) 137 ((((4000 : Int32) * (σ1.1 103 38)) + (σ.1 103 40)).toNatClampNeg) (-1 : Int32)) Q) ∧
                 (¬ (σ1.1 103 41) ≤ (σ1.1 103 40) →
                  (Ci d 247 [.ref 103] (sI (sI σ1 139 v1.toNatClampNeg (σ.1 103 40)) 137 ((((4000 : Int32) * (σ1.1 103 38)) + (σ.1 103 40)).toNatClampNeg) (-1 : Int32)) (fun x6 σ5 =>
                  ((¬ x6 = (64 : Int32) →
                    Wq 262 (d + 1) 249 [some (.ref 103), some (.int (v1 + (1 : Int32))), none, none, none] [] σ5 Q) ∧
                   (x6 = (64 : Int32) →
                    Wq 262 (d + 1) 2 [some (.ref 103), some (.int (v1 + (1 : Int32))), none, none, none] [] (sI σ5 103 40 ((σ5.1 103 40) + (1 : Int32))) Q))))))))) ∧
               (v1 = (20 : Int32) →
                (Cv d 244 [.ref 103, .int (-2 : Int32), .int (σ.1 103 40)] σ1 (fun σ7 =>
                Q none σ7))))))))) ∧
         (x2 = (5 : Int32) →
          ((v1 = 0 →
            (Cv d 244 [.ref 103, .int (-1 : Int32), .int (σ.1 103 40)] σ1 (fun σ8 =>
            Wq 262 (d + 1) 2 [some (.ref 103), some (.int v1), none, none, none] [] σ8 Q))) ∧
           (¬ v1 = 0 →
            (vp_in (v1 - (1 : Int32)) 21 ∧
            (vp_in (((4000 : Int32) * (σ1.1 103 38)) + (σ1.1 139 ((v1 - (1 : Int32)).toNatClampNeg))) 8000 ∧
            ((¬ (σ1.1 105 ((((4000 : Int32) * (σ1.1 103 38)) + (σ1.1 139 ((v1 - (1 : Int32)).toNatClampNeg))).toNatClampNeg)) = (4 : Int32) →
              (Cv d 244 [.ref 103, .int (-1 : Int32), .int (σ.1 103 40)] σ1 (fun σ9 =>
              Wq 262 (d + 1) 2 [some (.ref 103), some (.int v1), none, none, none] [] σ9 Q))) ∧
             ((σ1.1 105 ((((4000 : Int32) * (σ1.1 103 38)) + (σ1.1 139 ((v1 - (1 : Int32)).toNatClampNeg))).toNatClampNeg)) = (4 : Int32) →
              (vp_in (v1 - (1 : Int32)) 21 ∧
              (vp_in (((4000 : Int32) * (σ1.1 103 38)) + (σ1.1 139 ((v1 - (1 : Int32)).toNatClampNeg))) 8000 ∧
              (((σ1.1 137 ((((4000 : Int32) * (σ1.1 103 38)) + (σ1.1 139 ((v1 - (1 : Int32)).toNatClampNeg))).toNatClampNeg)) < 0 →
                (vp_in (v1 - (1 : Int32)) 21 ∧
                (vp_in (((4000 : Int32) * (σ1.1 103 38)) + (σ1.1 139 ((v1 - (1 : Int32)).toNatClampNeg))) 8000 ∧
                Wq 262 (d + 1) 2 [some (.ref 103), some (.int v1), none, none, none] [] (sI σ1 137 ((((4000 : Int32) * (σ1.1 103 38)) + (σ1.1 139 ((v1 - (1 : Int32)).toNatClampNeg))).toNatClampNeg) (σ.1 103 40)) Q))) ∧
               (¬ (σ1.1 137 ((((4000 : Int32) * (σ1.1 103 38)) + (σ1.1 139 ((v1 - (1 : Int32)).toNatClampNeg))).toNatClampNeg)) < 0 →
                (Cv d 244 [.ref 103, .int (-1 : Int32), .int (σ.1 103 40)] σ1 (fun σ10 =>
                Wq 262 (d + 1) 2 [some (.ref 103), some (.int v1), none, none, none] [] σ10 Q))))))))))))))) ∧
       (x2 = (11 : Int32) →
        ((¬ v1 = 0 →
          (vp_in (v1 + (-1 : Int32)) 21 ∧
          (vp_in (((4000 : Int32) * (σ1.1 103 38)) + (σ1.1 139 ((v1 + (-1 : Int32)).toNatClampNeg))) 8000 ∧
          Wq 262 (d + 1) 2 [some (.ref 103), some (.int (v1 + (-1 : Int32))), none, none, none] [] (sI σ1 138 ((((4000 : Int32) * (σ1.1 103 38)) + (σ1.1 139 ((v1 + (-1 : Int32)).toNatClampNeg))).toNatClampNeg) (σ.1 103 40)) Q))) ∧
         (v1 = 0 →
          Q none σ1))))) ∧
     (¬ (σ1.1 103 42) = 0 →
      Q none σ1))))))) :
  Wq 262 (d + 1) 2 [some (.ref 103), some (.int v1), none, none, none] [] σ Q := by
  exact fk_run_sound (B := B_M_expression) (C := C_M_expression) (n := 31) ok_M_expression h
set_option maxRecDepth 100000 in
set_option maxHeartbeats 4000000 in
theorem S_M_expression_249 {d : Nat} {v1 : Int32} {σ : fkS} {Q : Option Value → fkS → Prop} 
  (h : (((σ.1 103 40) < (σ.1 103 41) →
    (Ci d 253 [.ref 103] σ (fun x2 σ1 =>
    Wq 262 (d + 1) 2 [some (.ref 103), some (.int v1), none, none, none] [] σ1 Q))) ∧
   (¬ (σ.1 103 40) < (σ.1 103 41) →
    (Cv d 244 [.ref 103, .int (-1 : Int32), .int (σ.1 103 41)] σ (fun σ3 =>
    Wq 262 (d + 1) 2 [some (.ref 103), some (.int v1), none, none, none] [] σ3 Q))))) :
  Wq 262 (d + 1) 249 [some (.ref 103), some (.int v1), none, none, none] [] σ Q := by
  exact fk_run_sound (B := B_M_expression) (C := C_M_expression) (n := 31) ok_M_expression h
def B_M_operands : fkB := [(0, [(.iload_n 1, 1, []), (.invokestatic 376, 3, [256, 1, 2385, 0, 1]), (.ifCond .eq 11, 3, [15])]),
  (7, [(.aload_n 0, 1, []), (.bipush (-2), 2, []), (.iload_n 2, 1, []), (.invokevirtual 302, 3, [244, 2, 2335, 0, 0, 12]), (.return_, 1, [])]),
  (15, [(.iload_n 1, 1, []), (.bipush 12, 2, []), (.if_icmp .eq 27, 3, [45])]),
  (21, [(.iload_n 1, 1, []), (.bipush 13, 2, []), (.if_icmp .eq 21, 3, [45])]),
  (27, [(.iload_n 1, 1, []), (.bipush 16, 2, []), (.if_icmp .eq 15, 3, [45])]),
  (33, [(.iload_n 1, 1, []), (.bipush 32, 2, []), (.if_icmp .lt 17, 3, [53])]),
  (39, [(.iload_n 1, 1, []), (.bipush 36, 2, []), (.if_icmp .gt 11, 3, [53])]),
  (45, [(.aload_n 0, 1, []), (.invokevirtual 321, 3, [246, 0, 2343, 0, 2, 12]), (.lstore_n 3, 1, []), (.goto 154, 3, [204])]),
  (53, [(.iload_n 1, 1, []), (.bipush 14, 2, []), (.if_icmp .ne 39, 3, [95])]),
  (59, [(.aload_n 0, 1, []), (.invokevirtual 339, 3, [250, 0, 2359, 0, 1, 12]), (.istore_n 3, 1, []), (.iconst 0, 1, []), (.istore 4, 2, [])]),
  (67, [(.iload 4, 2, []), (.iload_n 3, 1, []), (.if_icmp .gt 22, 3, [92])]),
  (73, [(.aload_n 0, 1, []), (.getfield 287, 3, [12, 42, 1919, 0]), (.ifCond .ne 15, 3, [92])]),
  (80, [(.aload_n 0, 1, []), (.invokevirtual 321, 3, [246, 0, 2343, 0, 2, 12]), (.lstore 5, 2, []), (.iinc 4 1, 3, []), (.goto (-22), 3, [67])]),
  (92, [(.goto 112, 3, [204])]),
  (95, [(.iload_n 1, 1, []), (.bipush 17, 2, []), (.if_icmp .ne 16, 3, [114])]),
  (101, [(.aload_n 0, 1, []), (.invokevirtual 321, 3, [246, 0, 2343, 0, 2, 12]), (.lstore_n 3, 1, []), (.aload_n 0, 1, []), (.iconst 0, 1, []), (.invokevirtual 327, 3, [241, 1, 2323, 0, 0, 12]), (.goto 93, 3, [204])]),
  (114, [(.iload_n 1, 1, []), (.bipush 40, 2, []), (.if_icmp .lt 22, 3, [139])]),
  (120, [(.iload_n 1, 1, []), (.bipush 62, 2, []), (.if_icmp .gt 16, 3, [139])]),
  (126, [(.aload_n 0, 1, []), (.invokevirtual 321, 3, [246, 0, 2343, 0, 2, 12]), (.lstore_n 3, 1, []), (.aload_n 0, 1, []), (.invokevirtual 321, 3, [246, 0, 2343, 0, 2, 12]), (.lstore_n 3, 1, []), (.goto 68, 3, [204])]),
  (139, [(.iload_n 1, 1, []), (.bipush 63, 2, []), (.if_icmp .eq 9, 3, [151])]),
  (145, [(.iload_n 1, 1, []), (.bipush 64, 2, []), (.if_icmp .ne 11, 3, [159])]),
  (151, [(.aload_n 0, 1, []), (.iconst 0, 1, []), (.invokevirtual 327, 3, [241, 1, 2323, 0, 0, 12]), (.goto 48, 3, [204])]),
  (159, [(.iload_n 1, 1, []), (.bipush 65, 2, []), (.if_icmp .ne 13, 3, [175])]),
  (165, [(.aload_n 0, 1, []), (.bipush 32, 2, []), (.invokevirtual 380, 3, [257, 1, 2388, 0, 2, 12]), (.lstore_n 3, 1, []), (.goto 32, 3, [204])]),
  (175, [(.iload_n 1, 1, []), (.bipush 66, 2, []), (.if_icmp .ne 13, 3, [191])]),
  (181, [(.aload_n 0, 1, []), (.bipush 64, 2, []), (.invokevirtual 380, 3, [257, 1, 2388, 0, 2, 12]), (.lstore_n 3, 1, []), (.goto 16, 3, [204])]),
  (191, [(.iload_n 1, 1, []), (.invokestatic 392, 3, [264, 1, 2416, 0, 1]), (.ifCond .ne 9, 3, [204])]),
  (198, [(.aload_n 0, 1, []), (.iconst (-1), 1, []), (.iload_n 2, 1, []), (.invokevirtual 302, 3, [244, 2, 2335, 0, 0, 12])]),
  (204, [(.return_, 1, [])])]
set_option maxRecDepth 100000 in
theorem ok_M_operands : fk_okM 263 B_M_operands = true := by decide +kernel
abbrev C_M_operands : fkC := [(53, [true, true, true, false, false, false, false]), (67, [true, false, false, true, true, false, false]), (139, [true, true, true, false, false, false, false])]
set_option maxRecDepth 100000 in
set_option maxHeartbeats 4000000 in
theorem S_M_operands {d : Nat} {a0 : Int32} {a1 : Int32} {σ : fkS} {Q : Option Value → fkS → Prop} 
  (h : (Ci d 256 [.int a0] σ (fun x2 σ1 =>
  ((x2 = 0 →
    ((a0 = (12 : Int32) →
      (Cj d 246 [.ref 103] σ1 (fun x4 σ3 =>
      Q none σ3))) ∧
     (¬ a0 = (12 : Int32) →
      ((a0 = (13 : Int32) →
        (Cj d 246 [.ref 103] σ1 (fun x6 σ5 =>
        Q none σ5))) ∧
       (¬ a0 = (13 : Int32) →
        ((a0 = (16 : Int32) →
          (Cj d 246 [.ref 103] σ1 (fun x8 σ7 =>
          Q none σ7))) ∧
         (¬ a0 = (16 : Int32) →
          ((a0 < (32 : Int32) →
            Wq 263 (d + 1) 53 [some (.ref 103), some (.int a0), some (.int a1), none, none, none, none] [] σ1 Q) ∧
           (¬ a0 < (32 : Int32) →
            (((36 : Int32) < a0 →
              Wq 263 (d + 1) 53 [some (.ref 103), some (.int a0), some (.int a1), none, none, none, none] [] σ1 Q) ∧
             (¬ (36 : Int32) < a0 →
              (Cj d 246 [.ref 103] σ1 (fun x10 σ9 =>
              Q none σ9))))))))))))) ∧
   (¬ x2 = 0 →
    (Cv d 244 [.ref 103, .int (-2 : Int32), .int a1] σ1 (fun σ11 =>
    Q none σ11))))))) :
  Cl (d + 1) 263 [.ref 103, .int a0, .int a1] σ Q := by
  exact Cl.run B_M_operands C_M_operands 32 fk_q263 ok_M_operands rfl h
set_option maxRecDepth 100000 in
set_option maxHeartbeats 4000000 in
theorem S_M_operands_53 {d : Nat} {v1 : Int32} {v2 : Int32} {σ : fkS} {Q : Option Value → fkS → Prop} 
  (h : ((¬ v1 = (14 : Int32) →
    ((¬ v1 = (17 : Int32) →
      ((v1 < (40 : Int32) →
        Wq 263 (d + 1) 139 [some (.ref 103), some (.int v1), some (.int v2), none, none, none, none] [] σ Q) ∧
       (¬ v1 < (40 : Int32) →
        (((62 : Int32) < v1 →
          Wq 263 (d + 1) 139 [some (.ref 103), some (.int v1), some (.int v2), none, none, none, none] [] σ Q) ∧
         (¬ (62 : Int32) < v1 →
          (Cj d 246 [.ref 103] σ (fun x2 σ1 =>
          (Cj d 246 [.ref 103] σ1 (fun x4 σ3 =>
          Q none σ3))))))))) ∧
     (v1 = (17 : Int32) →
      (Cj d 246 [.ref 103] σ (fun x6 σ5 =>
      (Cv d 241 [.ref 103, .int (0 : Int32)] σ5 (fun σ7 =>
      Q none σ7))))))) ∧
   (v1 = (14 : Int32) →
    (Ci d 250 [.ref 103] σ (fun x9 σ8 =>
    Wq 263 (d + 1) 67 [some (.ref 103), none, none, some (.int x9), some (.int (0 : Int32)), none, none] [] σ8 Q))))) :
  Wq 263 (d + 1) 53 [some (.ref 103), some (.int v1), some (.int v2), none, none, none, none] [] σ Q := by
  exact fk_run_sound (B := B_M_operands) (C := C_M_operands) (n := 32) ok_M_operands h
set_option maxRecDepth 100000 in
set_option maxHeartbeats 4000000 in
theorem S_M_operands_67 {d : Nat} {v3 : Int32} {v4 : Int32} {σ : fkS} {Q : Option Value → fkS → Prop} 
  (h : ((v3 < v4 →
    Q none σ) ∧
   (¬ v3 < v4 →
    ((¬ (σ.1 103 42) = 0 →
      Q none σ) ∧
     ((σ.1 103 42) = 0 →
      (Cj d 246 [.ref 103] σ (fun x2 σ1 =>
      Wq 263 (d + 1) 67 [some (.ref 103), none, none, some (.int v3), some (.int (v4 + (1 : Int32))), none, none] [] σ1 Q))))))) :
  Wq 263 (d + 1) 67 [some (.ref 103), none, none, some (.int v3), some (.int v4), none, none] [] σ Q := by
  exact fk_run_sound (B := B_M_operands) (C := C_M_operands) (n := 32) ok_M_operands h
set_option maxRecDepth 100000 in
set_option maxHeartbeats 4000000 in
theorem S_M_operands_139 {d : Nat} {v1 : Int32} {v2 : Int32} {σ : fkS} {Q : Option Value → fkS → Prop} 
  (h : ((v1 = (63 : Int32) →
    (Cv d 241 [.ref 103, .int (0 : Int32)] σ (fun σ1 =>
    Q none σ1))) ∧
   (¬ v1 = (63 : Int32) →
    ((¬ v1 = (64 : Int32) →
      ((¬ v1 = (65 : Int32) →
        ((¬ v1 = (66 : Int32) →
          (Ci d 264 [.int v1] σ (fun x3 σ2 =>
          ((¬ x3 = 0 →
            Q none σ2) ∧
           (x3 = 0 →
            (Cv d 244 [.ref 103, .int (-1 : Int32), .int v2] σ2 (fun σ4 =>
            Q none σ4))))))) ∧
         (v1 = (66 : Int32) →
          (Cj d 257 [.ref 103, .int (64 : Int32)] σ (fun x6 σ5 =>
          Q none σ5))))) ∧
       (v1 = (65 : Int32) →
        (Cj d 257 [.ref 103, .int (32 : Int32)] σ (fun x8 σ7 =>
        Q none σ7))))) ∧
     (v1 = (64 : Int32) →
      (Cv d 241 [.ref 103, .int (0 : Int32)] σ (fun σ9 =>
      Q none σ9))))))) :
  Wq 263 (d + 1) 139 [some (.ref 103), some (.int v1), some (.int v2), none, none, none, none] [] σ Q := by
  exact fk_run_sound (B := B_M_operands) (C := C_M_operands) (n := 32) ok_M_operands h
def B_M_isPlain : fkB := [(0, [(.iload_n 0, 1, []), (.ifCond .eq 72, 3, [73])]),
  (4, [(.iload_n 0, 1, []), (.iconst 1, 1, []), (.if_icmp .eq 67, 3, [73])]),
  (9, [(.iload_n 0, 1, []), (.bipush 15, 2, []), (.if_icmp .eq 61, 3, [73])]),
  (15, [(.iload_n 0, 1, []), (.bipush 26, 2, []), (.if_icmp .eq 55, 3, [73])]),
  (21, [(.iload_n 0, 1, []), (.bipush 27, 2, []), (.if_icmp .eq 49, 3, [73])]),
  (27, [(.iload_n 0, 1, []), (.bipush 69, 2, []), (.if_icmp .lt 9, 3, [39])]),
  (33, [(.iload_n 0, 1, []), (.bipush 90, 2, []), (.if_icmp .le 37, 3, [73])]),
  (39, [(.iload_n 0, 1, []), (.bipush 103, 2, []), (.if_icmp .lt 10, 3, [52])]),
  (45, [(.iload_n 0, 1, []), (.sipush 138, 3, []), (.if_icmp .le 24, 3, [73])]),
  (52, [(.iload_n 0, 1, []), (.sipush 167, 3, []), (.if_icmp .eq 17, 3, [73])]),
  (59, [(.iload_n 0, 1, []), (.sipush 172, 3, []), (.if_icmp .eq 10, 3, [73])]),
  (66, [(.iload_n 0, 1, []), (.sipush 173, 3, []), (.if_icmp .ne 7, 3, [77])]),
  (73, [(.iconst 1, 1, []), (.goto 4, 3, [78])]),
  (77, [(.iconst 0, 1, [])]),
  (78, [(.ireturn, 1, [])])]
set_option maxRecDepth 100000 in
theorem ok_M_isPlain : fk_okM 264 B_M_isPlain = true := by decide +kernel
abbrev C_M_isPlain : fkC := [(39, [true])]
set_option maxRecDepth 100000 in
set_option maxHeartbeats 4000000 in
theorem S_M_isPlain {d : Nat} {a0 : Int32} {σ : fkS} {Q : Option Value → fkS → Prop} 
  (h : ((a0 = 0 →
    Q (some (.int (1 : Int32))) σ) ∧
   (¬ a0 = 0 →
    ((a0 = (1 : Int32) →
      Q (some (.int (1 : Int32))) σ) ∧
     (¬ a0 = (1 : Int32) →
      ((a0 = (15 : Int32) →
        Q (some (.int (1 : Int32))) σ) ∧
       (¬ a0 = (15 : Int32) →
        ((a0 = (26 : Int32) →
          Q (some (.int (1 : Int32))) σ) ∧
         (¬ a0 = (26 : Int32) →
          ((a0 = (27 : Int32) →
            Q (some (.int (1 : Int32))) σ) ∧
           (¬ a0 = (27 : Int32) →
            ((a0 < (69 : Int32) →
              Wq 264 d 39 [some (.int a0)] [] σ Q) ∧
             (¬ a0 < (69 : Int32) →
              ((a0 ≤ (90 : Int32) →
                Q (some (.int (1 : Int32))) σ) ∧
               (¬ a0 ≤ (90 : Int32) →
                Wq 264 d 39 [some (.int a0)] [] σ Q))))))))))))))) :
  Cl d 264 [.int a0] σ Q := by
  exact Cl.run B_M_isPlain C_M_isPlain 18 fk_q264 ok_M_isPlain rfl h
set_option maxRecDepth 100000 in
set_option maxHeartbeats 4000000 in
theorem S_M_isPlain_39 {d : Nat} {v0 : Int32} {σ : fkS} {Q : Option Value → fkS → Prop} 
  (h : ((v0 < (103 : Int32) →
    ((v0 = (167 : Int32) →
      Q (some (.int (1 : Int32))) σ) ∧
     (¬ v0 = (167 : Int32) →
      ((v0 = (172 : Int32) →
        Q (some (.int (1 : Int32))) σ) ∧
       (¬ v0 = (172 : Int32) →
        ((¬ v0 = (173 : Int32) →
          Q (some (.int (0 : Int32))) σ) ∧
         (v0 = (173 : Int32) →
          Q (some (.int (1 : Int32))) σ))))))) ∧
   (¬ v0 < (103 : Int32) →
    ((v0 ≤ (138 : Int32) →
      Q (some (.int (1 : Int32))) σ) ∧
     (¬ v0 ≤ (138 : Int32) →
      ((v0 = (167 : Int32) →
        Q (some (.int (1 : Int32))) σ) ∧
       (¬ v0 = (167 : Int32) →
        ((v0 = (172 : Int32) →
          Q (some (.int (1 : Int32))) σ) ∧
         (¬ v0 = (172 : Int32) →
          ((¬ v0 = (173 : Int32) →
            Q (some (.int (0 : Int32))) σ) ∧
           (v0 = (173 : Int32) →
            Q (some (.int (1 : Int32))) σ))))))))))) :
  Wq 264 d 39 [some (.int v0)] [] σ Q := by
  exact fk_run_sound (B := B_M_isPlain) (C := C_M_isPlain) (n := 18) ok_M_isPlain h
def B_M_isIn : fkB := [(0, [(.iload_n 0, 1, []), (.ifCond .lt 12, 3, [13])]),
  (4, [(.iload_n 0, 1, []), (.iload_n 1, 1, []), (.if_icmp .ge 7, 3, [13])]),
  (9, [(.iconst 1, 1, []), (.goto 4, 3, [14])]),
  (13, [(.iconst 0, 1, [])]),
  (14, [(.ireturn, 1, [])])]
set_option maxRecDepth 100000 in
theorem ok_M_isIn : fk_okM 293 B_M_isIn = true := by decide +kernel
abbrev C_M_isIn : fkC := []
set_option maxRecDepth 100000 in
set_option maxHeartbeats 4000000 in
theorem S_M_isIn {d : Nat} {a0 : Int32} {a1 : Int32} {σ : fkS} {Q : Option Value → fkS → Prop} 
  (h : ((a0 < 0 →
    Q (some (.int (0 : Int32))) σ) ∧
   (¬ a0 < 0 →
    ((a1 ≤ a0 →
      Q (some (.int (0 : Int32))) σ) ∧
     (¬ a1 ≤ a0 →
      Q (some (.int (1 : Int32))) σ))))) :
  Cl d 293 [.int a0, .int a1] σ Q := by
  exact Cl.run B_M_isIn C_M_isIn 8 fk_q293 ok_M_isIn rfl h
