/-! THE WALKS of the methods as predicates, by program (wip/whole/gen/gen_S.py). Cells: wip/whole/gen/cells.py prints them. -/
-- not here: Machine_<init>
def B_Machine_make : fkB := [(0, [(.aload_n 1, 1, []), (.getfield 43, 3, [6, 5, 396, 1]), (.ifCond .le 13, 3, [17])]),
  (7, [(.aload_n 1, 1, []), (.getfield 48, 3, [6, 6, 402, 1]), (.iconst 0, 1, []), (.laload, 1, []), (.l2i, 1, []), (.goto 4, 3, [18])]),
  (17, [(.iconst 0, 1, [])]),
  (18, [(.istore_n 2, 1, []), (.iconst 0, 1, []), (.istore_n 3, 1, [])]),
  (21, [(.iload_n 3, 1, []), (.aload_n 1, 1, []), (.getfield 51, 3, [6, 14, 433, 1]), (.if_icmp .ge 39, 3, [65])]),
  (29, [(.aload_n 1, 1, []), (.getfield 54, 3, [6, 16, 442, 1]), (.iload_n 3, 1, []), (.laload, 1, []), (.ldc2_w 57, 3, [4294967295, 1284]), (.land, 1, []), (.aload_n 1, 1, []), (.getfield 59, 3, [6, 15, 438, 1]), (.iconst 3, 1, []), (.iload_n 3, 1, []), (.imul, 1, []), (.iconst 2, 1, []), (.iadd, 1, []), (.iaload, 1, []), (.i2l, 1, []), (.ladd, 1, []), (.iload_n 2, 1, []), (.i2l, 1, []), (.lcmp, 1, []), (.ifCond .le 5, 3, [59])]),
  (57, [(.iconst 0, 1, []), (.ireturn, 1, [])]),
  (59, [(.iinc 3 1, 3, []), (.goto (-41), 3, [21])]),
  (65, [(.aload_n 0, 1, []), (.aload_n 1, 1, []), (.putfield 9, 3, [4, 0, 602, 0]), (.aload_n 0, 1, []), (.aload_n 1, 1, []), (.getfield 62, 3, [6, 19, 453, 1]), (.putfield 15, 3, [4, 1, 603, 0]), (.aload_n 1, 1, []), (.getfield 65, 3, [6, 11, 423, 1]), (.iconst 0, 1, []), (.aload_n 0, 1, []), (.getfield 19, 3, [4, 2, 604, 0]), (.iconst 0, 1, []), (.aload_n 1, 1, []), (.getfield 68, 3, [6, 9, 415, 1]), (.invokestatic 70, 3, [1000, 1, 1285]), (.aload_n 0, 1, []), (.getfield 23, 3, [4, 3, 606, 0]), (.lconst 0, 1, []), (.invokestatic 76, 3, [97, 2, 1286, 0, 3]), (.aload_n 0, 1, []), (.aload_n 1, 1, []), (.getfield 82, 3, [6, 7, 407, 1]), (.ifCond .le 13, 3, [121])]),
  (111, [(.aload_n 1, 1, []), (.getfield 85, 3, [6, 8, 412, 1]), (.iconst 0, 1, []), (.laload, 1, []), (.l2i, 1, []), (.goto 4, 3, [122])]),
  (121, [(.iconst 0, 1, [])]),
  (122, [(.putfield 26, 3, [4, 4, 607, 0]), (.aload_n 0, 1, []), (.iload_n 2, 1, []), (.putfield 34, 3, [4, 6, 611, 0]), (.aload_n 0, 1, []), (.getfield 30, 3, [4, 5, 609, 0]), (.iconst (-1), 1, []), (.invokestatic 88, 3, [98, 2, 1289, 0, 3]), (.iconst 0, 1, []), (.istore_n 3, 1, [])]),
  (140, [(.iload_n 3, 1, []), (.aload_n 1, 1, []), (.getfield 51, 3, [6, 14, 433, 1]), (.if_icmp .ge 47, 3, [192])]),
  (148, [(.aload_n 1, 1, []), (.getfield 91, 3, [6, 18, 448, 1]), (.aload_n 1, 1, []), (.getfield 59, 3, [6, 15, 438, 1]), (.iconst 3, 1, []), (.iload_n 3, 1, []), (.imul, 1, []), (.iconst 1, 1, []), (.iadd, 1, []), (.iaload, 1, []), (.aload_n 0, 1, []), (.getfield 30, 3, [4, 5, 609, 0]), (.aload_n 1, 1, []), (.getfield 54, 3, [6, 16, 442, 1]), (.iload_n 3, 1, []), (.laload, 1, []), (.l2i, 1, []), (.aload_n 1, 1, []), (.getfield 59, 3, [6, 15, 438, 1]), (.iconst 3, 1, []), (.iload_n 3, 1, []), (.imul, 1, []), (.iconst 2, 1, []), (.iadd, 1, []), (.iaload, 1, []), (.invokestatic 70, 3, [1000, 0, 1285]), (.iinc 3 1, 3, []), (.goto (-49), 3, [140])]),
  (192, [(.iconst 1, 1, []), (.ireturn, 1, [])])]
set_option maxRecDepth 100000 in
theorem ok_Machine_make : fk_okM 96 B_Machine_make = true := by decide +kernel
abbrev C_Machine_make : fkC := [(21, [true, true, true, true]), (140, [true, true, false, true])]
set_option maxRecDepth 100000 in
set_option maxHeartbeats 4000000 in
theorem S_Machine_make {d : Nat}  {σ : fkS} {Q : Option Value → fkS → Prop} 
  (h : (((σ.1 24 5) ≤ 0 →
    Wq 96 (d + 1) 21 [some (.ref 56), some (.ref 24), some (.int (0 : Int32)), some (.int (0 : Int32))] [] σ Q) ∧
   (¬ (σ.1 24 5) ≤ 0 →
    (vp_in (0 : Int32) 2 ∧
    Wq 96 (d + 1) 21 [some (.ref 56), some (.ref 24), some (.int ((σ.2.1 28 ((0 : Int32).toNatClampNeg)).toInt32)), some (.int (0 : Int32))] [] σ Q)))) :
  Cl (d + 1) 96 [.ref 56, .ref 24] σ Q := by
  exact Cl.run B_Machine_make C_Machine_make 18 fk_q96 ok_Machine_make rfl h
set_option maxRecDepth 100000 in
set_option maxHeartbeats 4000000 in
theorem S_Machine_make_21 {d : Nat} {v2 : Int32} {v3 : Int32} {σ : fkS} {Q : Option Value → fkS → Prop} 
  (h : (((σ.1 24 14) ≤ v3 →
    (¬ (0 : Int32) < 0 ∧ ¬ (0 : Int32) < 0 ∧ ¬ (σ.1 24 9) < 0 ∧ (0 : Int32).toNatClampNeg + (σ.1 24 9).toNatClampNeg ≤ 60 ∧ (0 : Int32).toNatClampNeg + (σ.1 24 9).toNatClampNeg ≤ 60 ∧ 
    (Dv d 97 [.ref 58, .long (0 : Int64)] (sAL (sR (sR σ 56 0 25) 56 1 37) 57 (va_cpy (σ.2.1 31) (σ.2.1 57) (0 : Int32).toNatClampNeg (0 : Int32).toNatClampNeg (σ.1 24 9).toNatClampNeg)) (fun σ1 =>
    ((((sW σ1 (sR (sR σ 56 0 25) 56 1 37)).1 24 7) ≤ 0 →
      (Dv d 98 [.ref 59, .int (-1 : Int32)] (sI (sI (sW σ1 (sR (sR σ 56 0 25) 56 1 37)) 56 4 (0 : Int32)) 56 6 v2) (fun σ2 =>
      Wq 96 (d + 1) 140 [some (.ref 56), some (.ref 24), none, some (.int (0 : Int32))] [] (sW σ2 (sR (sR σ 56 0 25) 56 1 37)) Q))) ∧
     (¬ ((sW σ1 (sR (sR σ 56 0 25) 56 1 37)).1 24 7) ≤ 0 →
      (vp_in (0 : Int32) 2 ∧
      (Dv d 98 [.ref 59, .int (-1 : Int32)] (sI (sI (sW σ1 (sR (sR σ 56 0 25) 56 1 37)) 56 4 (((sW σ1 (sR (sR σ 56 0 25) 56 1 37)).2.1 29 ((0 : Int32).toNatClampNeg)).toInt32)) 56 6 v2) (fun σ3 =>
      Wq 96 (d + 1) 140 [some (.ref 56), some (.ref 24), none, some (.int (0 : Int32))] [] (sW σ3 (sR (sR σ 56 0 25) 56 1 37)) Q))))))))) ∧
   (¬ (σ.1 24 14) ≤ v3 →
    (vp_in v3 60 ∧
    (vp_in (((3 : Int32) * v3) + (2 : Int32)) 180 ∧
    (((lg_cmp (((σ.2.1 34 v3.toNatClampNeg) &&& (Int64.ofNat 4294967295)) + ((σ.1 33 ((((3 : Int32) * v3) + (2 : Int32)).toNatClampNeg)).toInt64)) v2.toInt64) ≤ 0 →
      Wq 96 (d + 1) 21 [some (.ref 56), some (.ref 24), some (.int v2), some (.int (v3 + (1 : Int32)))] [] σ Q) ∧
     (¬ (lg_cmp (((σ.2.1 34 v3.toNatClampNeg) &&& (Int64.ofNat 4294967295)) + ((σ.1 33 ((((3 : Int32) * v3) + (2 : Int32)).toNatClampNeg)).toInt64)) v2.toInt64) ≤ 0 →
      Q (some (.int (0 : Int32))) σ))))))) :
  Wq 96 (d + 1) 21 [some (.ref 56), some (.ref 24), some (.int v2), some (.int v3)] [] σ Q := by
  exact fk_run_sound (B := B_Machine_make) (C := C_Machine_make) (n := 18) ok_Machine_make h
set_option maxRecDepth 100000 in
set_option maxHeartbeats 4000000 in
theorem S_Machine_make_140 {d : Nat} {v3 : Int32} {σ : fkS} {Q : Option Value → fkS → Prop} 
  (h : (((σ.1 24 14) ≤ v3 →
    Q (some (.int (1 : Int32))) σ) ∧
   (¬ (σ.1 24 14) ≤ v3 →
    (vp_in (((3 : Int32) * v3) + (1 : Int32)) 180 ∧
    (vp_in v3 60 ∧
    (vp_in (((3 : Int32) * v3) + (2 : Int32)) 180 ∧
    (¬ (σ.1 33 ((((3 : Int32) * v3) + (1 : Int32)).toNatClampNeg)) < 0 ∧ ¬ ((σ.2.1 34 v3.toNatClampNeg).toInt32) < 0 ∧ ¬ (σ.1 33 ((((3 : Int32) * v3) + (2 : Int32)).toNatClampNeg)) < 0 ∧ (σ.1 33 ((((3 : Int32) * v3) + (1 : Int32)).toNatClampNeg)).toNatClampNeg + (σ.1 33 ((((3 : Int32) * v3) + (2 : Int32)).toNatClampNeg)).toNatClampNeg ≤ 4000 ∧ ((σ.2.1 34 v3.toNatClampNeg).toInt32).toNatClampNeg + (σ.1 33 ((((3 : Int32) * v3) + (2 : Int32)).toNatClampNeg)).toNatClampNeg ≤ 100 ∧ 
    Wq 96 (d + 1) 140 [some (.ref 56), some (.ref 24), none, some (.int (v3 + (1 : Int32)))] [] (sAI σ 59 (va_cpy (σ.1 35) (σ.1 59) (σ.1 33 ((((3 : Int32) * v3) + (1 : Int32)).toNatClampNeg)).toNatClampNeg ((σ.2.1 34 v3.toNatClampNeg).toInt32).toNatClampNeg (σ.1 33 ((((3 : Int32) * v3) + (2 : Int32)).toNatClampNeg)).toNatClampNeg)) Q))))))) :
  Wq 96 (d + 1) 140 [some (.ref 56), some (.ref 24), none, some (.int v3)] [] σ Q := by
  exact fk_run_sound (B := B_Machine_make) (C := C_Machine_make) (n := 18) ok_Machine_make h
def B_jArrays_fill0 : fkB := [(0, [(.iconst 0, 1, []), (.istore_n 3, 1, []), (.aload_n 0, 1, []), (.arraylength, 1, []), (.istore 4, 2, [])]),
  (6, [(.iload_n 3, 1, []), (.iload 4, 2, []), (.if_icmp .ge 13, 3, [22])]),
  (12, [(.aload_n 0, 1, []), (.iload_n 3, 1, []), (.lload_n 1, 1, []), (.lastore, 1, []), (.iinc 3 1, 3, []), (.goto (-13), 3, [6])]),
  (22, [(.return_, 1, [])])]
set_option maxRecDepth 100000 in
theorem ok_jArrays_fill0 : fk_okM 97 B_jArrays_fill0 = true := by decide +kernel
abbrev C_jArrays_fill0 : fkC := [(6, [true, true, false, true, true])]
set_option maxRecDepth 100000 in
set_option maxHeartbeats 4000000 in
theorem S_jArrays_fill0 {d : Nat} {a1 : Int64} {σ : fkS} {Q : Option Value → fkS → Prop} 
  (h : Wq 97 d 6 [some (.ref 58), some (.long a1), none, some (.int (0 : Int32)), some (.int (16384 : Int32))] [] σ Q) :
  Cl d 97 [.ref 58, .long a1] σ Q := by
  exact Cl.run B_jArrays_fill0 C_jArrays_fill0 7 fk_q97 ok_jArrays_fill0 rfl h
set_option maxRecDepth 100000 in
set_option maxHeartbeats 4000000 in
theorem S_jArrays_fill0_6 {d : Nat} {v1 : Int64} {v3 : Int32} {v4 : Int32} {σ : fkS} {Q : Option Value → fkS → Prop} 
  (h : ((v4 ≤ v3 →
    Q none σ) ∧
   (¬ v4 ≤ v3 →
    (vp_in v3 16384 ∧
    Wq 97 d 6 [some (.ref 58), some (.long v1), none, some (.int (v3 + (1 : Int32))), some (.int v4)] [] (sL σ 58 v3.toNatClampNeg v1) Q)))) :
  Wq 97 d 6 [some (.ref 58), some (.long v1), none, some (.int v3), some (.int v4)] [] σ Q := by
  exact fk_run_sound (B := B_jArrays_fill0) (C := C_jArrays_fill0) (n := 7) ok_jArrays_fill0 h
def B_jArrays_fill1 : fkB := [(0, [(.iconst 0, 1, []), (.istore_n 2, 1, []), (.aload_n 0, 1, []), (.arraylength, 1, []), (.istore_n 3, 1, [])]),
  (5, [(.iload_n 2, 1, []), (.iload_n 3, 1, []), (.if_icmp .ge 13, 3, [20])]),
  (10, [(.aload_n 0, 1, []), (.iload_n 2, 1, []), (.iload_n 1, 1, []), (.iastore, 1, []), (.iinc 2 1, 3, []), (.goto (-12), 3, [5])]),
  (20, [(.return_, 1, [])])]
set_option maxRecDepth 100000 in
theorem ok_jArrays_fill1 : fk_okM 98 B_jArrays_fill1 = true := by decide +kernel
abbrev C_jArrays_fill1 : fkC := [(5, [true, true, true, true])]
set_option maxRecDepth 100000 in
set_option maxHeartbeats 4000000 in
theorem S_jArrays_fill1 {d : Nat} {a1 : Int32} {σ : fkS} {Q : Option Value → fkS → Prop} 
  (h : Wq 98 d 5 [some (.ref 59), some (.int a1), some (.int (0 : Int32)), some (.int (100 : Int32))] [] σ Q) :
  Cl d 98 [.ref 59, .int a1] σ Q := by
  exact Cl.run B_jArrays_fill1 C_jArrays_fill1 7 fk_q98 ok_jArrays_fill1 rfl h
set_option maxRecDepth 100000 in
set_option maxHeartbeats 4000000 in
theorem S_jArrays_fill1_5 {d : Nat} {v1 : Int32} {v2 : Int32} {v3 : Int32} {σ : fkS} {Q : Option Value → fkS → Prop} 
  (h : ((v3 ≤ v2 →
    Q none σ) ∧
   (¬ v3 ≤ v2 →
    (vp_in v2 100 ∧
    Wq 98 d 5 [some (.ref 59), some (.int v1), some (.int (v2 + (1 : Int32))), some (.int v3)] [] (sI σ 59 v2.toNatClampNeg v1) Q)))) :
  Wq 98 d 5 [some (.ref 59), some (.int v1), some (.int v2), some (.int v3)] [] σ Q := by
  exact fk_run_sound (B := B_jArrays_fill1) (C := C_jArrays_fill1) (n := 7) ok_jArrays_fill1 h
def B_Machine_start : fkB := [(0, [(.aload_n 0, 1, []), (.iconst 0, 1, []), (.putfield 99, 3, [4, 8, 614, 0]), (.aload_n 0, 1, []), (.iconst 0, 1, []), (.putfield 102, 3, [4, 10, 616, 0]), (.aload_n 0, 1, []), (.iconst 0, 1, []), (.putfield 105, 3, [4, 14, 620, 0]), (.aload_n 0, 1, []), (.iconst 0, 1, []), (.putfield 108, 3, [4, 15, 622, 0]), (.aload_n 0, 1, []), (.lconst 0, 1, []), (.putfield 111, 3, [4, 16, 624, 0]), (.aload_n 0, 1, []), (.getfield 9, 3, [4, 0, 602, 0]), (.getfield 115, 3, [6, 4, 394, 1]), (.iload_n 1, 1, []), (.iaload, 1, []), (.istore 4, 2, []), (.iconst 0, 1, []), (.istore 5, 2, [])]),
  (39, [(.iload 5, 2, []), (.aload_n 0, 1, []), (.getfield 9, 3, [4, 0, 602, 0]), (.iload 4, 2, []), (.invokevirtual 118, 3, [86, 1, 1324, 1, 4, 6]), (.if_icmp .ge 61, 3, [111])]),
  (53, [(.iload 5, 2, []), (.aload_n 2, 1, []), (.arraylength, 1, []), (.if_icmp .ge 54, 3, [111])]),
  (60, [(.aload_n 0, 1, []), (.getfield 9, 3, [4, 0, 602, 0]), (.iload 4, 2, []), (.iload 5, 2, []), (.invokevirtual 122, 3, [87, 2, 1325, 1, 4, 6]), (.bipush 127, 2, []), (.if_icmp .ne 7, 3, [80])]),
  (76, [(.iconst 1, 1, []), (.goto 4, 3, [81])]),
  (80, [(.iconst 0, 1, [])]),
  (81, [(.istore 6, 2, []), (.aload_n 0, 1, []), (.iload 6, 2, []), (.ifCond .eq 12, 3, [98])]),
  (89, [(.aload_n 2, 1, []), (.iload 5, 2, []), (.laload, 1, []), (.l2i, 1, []), (.i2l, 1, []), (.goto 7, 3, [102])]),
  (98, [(.aload_n 2, 1, []), (.iload 5, 2, []), (.laload, 1, [])]),
  (102, [(.invokevirtual 126, 3, [106, 1, 1326, 0, 3, 4]), (.iinc 5 1, 3, []), (.goto (-69), 3, [39])]),
  (111, [(.aload_n 0, 1, []), (.iload_n 1, 1, []), (.iconst 0, 1, []), (.invokevirtual 130, 3, [107, 2, 1330, 0, 3, 4]), (.iconst 0, 1, []), (.istore 5, 2, []), (.iconst 0, 1, []), (.istore 6, 2, [])]),
  (123, [(.iload 6, 2, []), (.ldc 134, 2, [1000000, 1334]), (.if_icmp .ge 103, 3, [230])]),
  (130, [(.aload_n 0, 1, []), (.invokevirtual 135, 3, [108, 0, 1335, 0, 4, 4]), (.ifCond .eq 96, 3, [230])]),
  (137, [(.iload 5, 2, []), (.ifCond .ne 91, 3, [230])]),
  (142, [(.aload_n 0, 1, []), (.getfield 15, 3, [4, 1, 603, 0]), (.getfield 139, 3, [2, 6, 334, 1]), (.aload_n 0, 1, []), (.getfield 144, 3, [4, 11, 617, 0]), (.iaload, 1, []), (.istore 7, 2, []), (.iload 7, 2, []), (.iconst 5, 1, []), (.if_icmp .eq 10, 3, [169])]),
  (162, [(.iload 7, 2, []), (.bipush 11, 2, []), (.if_icmp .ne 12, 3, [178])]),
  (169, [(.aload_n 0, 1, []), (.iload 7, 2, []), (.invokevirtual 147, 3, [109, 1, 1339, 0, 3, 4]), (.goto 49, 3, [224])]),
  (178, [(.aload_n 0, 1, []), (.getfield 105, 3, [4, 14, 620, 0]), (.iload_n 3, 1, []), (.if_icmp .lt 9, 3, [192])]),
  (186, [(.iconst 1, 1, []), (.istore 5, 2, []), (.goto 35, 3, [224])]),
  (192, [(.aload_n 0, 1, []), (.dup, 1, []), (.getfield 105, 3, [4, 14, 620, 0]), (.iconst 1, 1, []), (.iadd, 1, []), (.putfield 105, 3, [4, 14, 620, 0]), (.aload_n 0, 1, []), (.dup, 1, []), (.getfield 144, 3, [4, 11, 617, 0]), (.iconst 1, 1, []), (.iadd, 1, []), (.putfield 144, 3, [4, 11, 617, 0]), (.aload_n 0, 1, []), (.iload 7, 2, []), (.aload_n 0, 1, []), (.getfield 144, 3, [4, 11, 617, 0]), (.iconst 1, 1, []), (.isub, 1, []), (.invokevirtual 151, 3, [112, 2, 1352, 0, 3, 4])]),
  (224, [(.iinc 6 1, 3, []), (.goto (-104), 3, [123])]),
  (230, [(.iload 5, 2, []), (.ifCond .eq 5, 3, [237])]),
  (235, [(.iconst 1, 1, []), (.ireturn, 1, [])]),
  (237, [(.aload_n 0, 1, []), (.getfield 108, 3, [4, 15, 622, 0]), (.ifCond .eq 5, 3, [246])]),
  (244, [(.iconst 2, 1, []), (.ireturn, 1, [])]),
  (246, [(.aload_n 0, 1, []), (.aload_n 0, 1, []), (.getfield 9, 3, [4, 0, 602, 0]), (.iload 4, 2, []), (.invokevirtual 154, 3, [68, 1, 1347, 1, 4, 6]), (.ifCond .ne 7, 3, [263])]),
  (259, [(.lconst 0, 1, []), (.goto 7, 3, [267])]),
  (263, [(.aload_n 0, 1, []), (.invokevirtual 157, 3, [111, 0, 1348, 0, 5, 4])]),
  (267, [(.putfield 111, 3, [4, 16, 624, 0]), (.iconst 0, 1, []), (.ireturn, 1, [])])]
set_option maxRecDepth 100000 in
theorem ok_Machine_start : fk_okM 105 B_Machine_start = true := by decide +kernel
abbrev C_Machine_start : fkC := [(39, [true, true, true, true, true, true, false, false]), (81, [true, true, true, true, true, true, false, false]), (123, [true, false, false, true, true, true, true, false]), (230, [true, false, false, false, true, true, false, false])]
set_option maxRecDepth 100000 in
set_option maxHeartbeats 4000000 in
theorem S_Machine_start {d : Nat} {a0 : Int32} {a2 : Int32} {σ : fkS} {Q : Option Value → fkS → Prop} (h56_0 : σ.2.2 56 0 = 4)
  (h : (¬ (4 : Nat) = 0 ∧
  (vp_in a0 60 ∧
  Wq 105 (d + 1) 39 [some (.ref 56), some (.int a0), some (.ref 2), some (.int a2), some (.int (σ.1 6 a0.toNatClampNeg)), some (.int (0 : Int32)), none, none] [] (sL (sI (sI (sI (sI σ 56 8 (0 : Int32)) 56 10 (0 : Int32)) 56 14 (0 : Int32)) 56 15 (0 : Int32)) 56 16 (0 : Int64)) Q))) :
  Cl (d + 1) 105 [.ref 56, .int a0, .ref 2, .int a2] σ Q := by
  rw [← sR_eta h56_0] at h ⊢
  exact Cl.run B_Machine_start C_Machine_start 32 fk_q105 ok_Machine_start rfl h
set_option maxRecDepth 100000 in
set_option maxHeartbeats 4000000 in
theorem S_Machine_start_39 {d : Nat} {v1 : Int32} {v3 : Int32} {v4 : Int32} {v5 : Int32} {σ : fkS} {Q : Option Value → fkS → Prop} (h56_0 : σ.2.2 56 0 = 4)
  (h : (¬ (4 : Nat) = 0 ∧
  (Di d 86 [.ref 3, .int v4] σ (fun x2 σ1 =>
  ((x2 ≤ v5 →
    (Dv d 107 [.ref 56, .int v1, .int (0 : Int32)] (sW σ1 σ) (fun σ3 =>
    Wq 105 (d + 1) 123 [some (.ref 56), none, none, some (.int v3), some (.int v4), some (.int (0 : Int32)), some (.int (0 : Int32)), none] [] (sW σ3 σ) Q))) ∧
   (¬ x2 ≤ v5 →
    (((8 : Int32) ≤ v5 →
      (Dv d 107 [.ref 56, .int v1, .int (0 : Int32)] (sW σ1 σ) (fun σ4 =>
      Wq 105 (d + 1) 123 [some (.ref 56), none, none, some (.int v3), some (.int v4), some (.int (0 : Int32)), some (.int (0 : Int32)), none] [] (sW σ4 σ) Q))) ∧
     (¬ (8 : Int32) ≤ v5 →
      (¬ (4 : Nat) = 0 ∧
      (Di d 87 [.ref 3, .int v4, .int v5] (sW σ1 σ) (fun x6 σ5 =>
      ((¬ x6 = (127 : Int32) →
        Wq 105 (d + 1) 81 [some (.ref 56), some (.int v1), some (.ref 2), some (.int v3), some (.int v4), some (.int v5), none, none] [.int (0 : Int32)] (sW σ5 σ) Q) ∧
       (x6 = (127 : Int32) →
        Wq 105 (d + 1) 81 [some (.ref 56), some (.int v1), some (.ref 2), some (.int v3), some (.int v4), some (.int v5), none, none] [.int (1 : Int32)] (sW σ5 σ) Q))))))))))))) :
  Wq 105 (d + 1) 39 [some (.ref 56), some (.int v1), some (.ref 2), some (.int v3), some (.int v4), some (.int v5), none, none] [] σ Q := by
  rw [← sR_eta h56_0] at h ⊢
  exact fk_run_sound (B := B_Machine_start) (C := C_Machine_start) (n := 32) ok_Machine_start h
set_option maxRecDepth 100000 in
set_option maxHeartbeats 4000000 in
theorem S_Machine_start_81 {d : Nat} {v1 : Int32} {v3 : Int32} {v4 : Int32} {v5 : Int32} {s0 : Int32} {σ : fkS} {Q : Option Value → fkS → Prop} 
  (h : ((s0 = 0 →
    (vp_in v5 8 ∧
    (Dv d 106 [.ref 56, .long (σ.2.1 2 v5.toNatClampNeg)] σ (fun σ1 =>
    Wq 105 (d + 1) 39 [some (.ref 56), some (.int v1), some (.ref 2), some (.int v3), some (.int v4), some (.int (v5 + (1 : Int32))), none, none] [] (sW σ1 σ) Q)))) ∧
   (¬ s0 = 0 →
    (vp_in v5 8 ∧
    (Dv d 106 [.ref 56, .long (((σ.2.1 2 v5.toNatClampNeg).toInt32).toInt64)] σ (fun σ2 =>
    Wq 105 (d + 1) 39 [some (.ref 56), some (.int v1), some (.ref 2), some (.int v3), some (.int v4), some (.int (v5 + (1 : Int32))), none, none] [] (sW σ2 σ) Q)))))) :
  Wq 105 (d + 1) 81 [some (.ref 56), some (.int v1), some (.ref 2), some (.int v3), some (.int v4), some (.int v5), none, none] [.int s0] σ Q := by
  exact fk_run_sound (B := B_Machine_start) (C := C_Machine_start) (n := 32) ok_Machine_start h
set_option maxRecDepth 100000 in
set_option maxHeartbeats 4000000 in
theorem S_Machine_start_123 {d : Nat} {v3 : Int32} {v4 : Int32} {v5 : Int32} {v6 : Int32} {σ : fkS} {Q : Option Value → fkS → Prop} (h56_1 : σ.2.2 56 1 = 16)
  (h : (((1000000 : Int32) ≤ v6 →
    Wq 105 (d + 1) 230 [some (.ref 56), none, none, none, some (.int v4), some (.int v5), none, none] [] σ Q) ∧
   (¬ (1000000 : Int32) ≤ v6 →
    (Di d 108 [.ref 56] σ (fun x2 σ1 =>
    ((x2 = 0 →
      Wq 105 (d + 1) 230 [some (.ref 56), none, none, none, some (.int v4), some (.int v5), none, none] [] (sW σ1 σ) Q) ∧
     (¬ x2 = 0 →
      ((¬ v5 = 0 →
        Wq 105 (d + 1) 230 [some (.ref 56), none, none, none, some (.int v4), some (.int v5), none, none] [] (sW σ1 σ) Q) ∧
       (v5 = 0 →
        (¬ (16 : Nat) = 0 ∧
        (vp_in ((sW σ1 σ).1 56 11) 4000 ∧
        ((((sW σ1 σ).1 20 (((sW σ1 σ).1 56 11).toNatClampNeg)) = (5 : Int32) →
          (Dv d 109 [.ref 56, .int ((sW σ1 σ).1 20 (((sW σ1 σ).1 56 11).toNatClampNeg))] (sW σ1 σ) (fun σ3 =>
          Wq 105 (d + 1) 123 [some (.ref 56), none, none, some (.int v3), some (.int v4), some (.int v5), some (.int (v6 + (1 : Int32))), none] [] (sW σ3 σ) Q))) ∧
         (¬ ((sW σ1 σ).1 20 (((sW σ1 σ).1 56 11).toNatClampNeg)) = (5 : Int32) →
          ((¬ ((sW σ1 σ).1 20 (((sW σ1 σ).1 56 11).toNatClampNeg)) = (11 : Int32) →
            ((((sW σ1 σ).1 56 14) < v3 →
              (Dv d 112 [.ref 56, .int ((sW σ1 σ).1 20 (((sW σ1 σ).1 56 11).toNatClampNeg)), .int ((((sW σ1 σ).1 56 11) + (1 : Int32)) - (1 : Int32))] (sI (sI (sW σ1 σ) 56 14 (((sW σ1 σ).1 56 14) + (1 : Int32))) 56 11 (((sW σ1 σ).1 56 11) + (1 : Int32))) (fun σ4 =>
              Wq 105 (d + 1) 123 [some (.ref 56), none, none, some (.int v3), some (.int v4), some (.int v5), some (.int (v6 + (1 : Int32))), none] [] (sW σ4 σ) Q))) ∧
             (¬ ((sW σ1 σ).1 56 14) < v3 →
              Wq 105 (d + 1) 123 [some (.ref 56), none, none, some (.int v3), some (.int v4), some (.int (1 : Int32)), some (.int (v6 + (1 : Int32))), none] [] (sW σ1 σ) Q))) ∧
           (((sW σ1 σ).1 20 (((sW σ1 σ).1 56 11).toNatClampNeg)) = (11 : Int32) →
            (Dv d 109 [.ref 56, .int ((sW σ1 σ).1 20 (((sW σ1 σ).1 56 11).toNatClampNeg))] (sW σ1 σ) (fun σ5 =>
            Wq 105 (d + 1) 123 [some (.ref 56), none, none, some (.int v3), some (.int v4), some (.int v5), some (.int (v6 + (1 : Int32))), none] [] (sW σ5 σ) Q))))))))))))))))) :
  Wq 105 (d + 1) 123 [some (.ref 56), none, none, some (.int v3), some (.int v4), some (.int v5), some (.int v6), none] [] σ Q := by
  rw [← sR_eta h56_1] at h ⊢
  exact fk_run_sound (B := B_Machine_start) (C := C_Machine_start) (n := 32) ok_Machine_start h
set_option maxRecDepth 100000 in
set_option maxHeartbeats 4000000 in
theorem S_Machine_start_230 {d : Nat} {v4 : Int32} {v5 : Int32} {σ : fkS} {Q : Option Value → fkS → Prop} (h56_0 : σ.2.2 56 0 = 4)
  (h : ((v5 = 0 →
    (((σ.1 56 15) = 0 →
      (¬ (4 : Nat) = 0 ∧
      (Di d 68 [.ref 3, .int v4] σ (fun x2 σ1 =>
      ((¬ x2 = 0 →
        (Dj d 111 [.ref 56] (sW σ1 σ) (fun x4 σ3 =>
        Q (some (.int (0 : Int32))) (sL (sW σ3 σ) 56 16 x4)))) ∧
       (x2 = 0 →
        Q (some (.int (0 : Int32))) (sL (sW σ1 σ) 56 16 (0 : Int64)))))))) ∧
     (¬ (σ.1 56 15) = 0 →
      Q (some (.int (2 : Int32))) σ))) ∧
   (¬ v5 = 0 →
    Q (some (.int (1 : Int32))) σ))) :
  Wq 105 (d + 1) 230 [some (.ref 56), none, none, none, some (.int v4), some (.int v5), none, none] [] σ Q := by
  rw [← sR_eta h56_0] at h ⊢
  exact fk_run_sound (B := B_Machine_start) (C := C_Machine_start) (n := 32) ok_Machine_start h
def B_Machine_push : fkB := [(0, [(.aload_n 0, 1, []), (.getfield 99, 3, [4, 8, 614, 0]), (.sipush 24000, 3, []), (.if_icmp .ge 23, 3, [30])]),
  (10, [(.aload_n 0, 1, []), (.getfield 37, 3, [4, 7, 613, 0]), (.aload_n 0, 1, []), (.getfield 99, 3, [4, 8, 614, 0]), (.lload_n 1, 1, []), (.lastore, 1, []), (.aload_n 0, 1, []), (.dup, 1, []), (.getfield 99, 3, [4, 8, 614, 0]), (.iconst 1, 1, []), (.iadd, 1, []), (.putfield 99, 3, [4, 8, 614, 0])]),
  (30, [(.return_, 1, [])])]
set_option maxRecDepth 100000 in
theorem ok_Machine_push : fk_okM 106 B_Machine_push = true := by decide +kernel
abbrev C_Machine_push : fkC := []
set_option maxRecDepth 100000 in
set_option maxHeartbeats 4000000 in
theorem S_Machine_push {d : Nat} {a0 : Int64} {σ : fkS} {Q : Option Value → fkS → Prop} 
  (h : (((24000 : Int32) ≤ (σ.1 56 8) →
    Q none σ) ∧
   (¬ (24000 : Int32) ≤ (σ.1 56 8) →
    (vp_in (σ.1 56 8) 24000 ∧
    Q none (sI (sL σ 60 ((σ.1 56 8).toNatClampNeg) a0) 56 8 ((σ.1 56 8) + (1 : Int32))))))) :
  Cl d 106 [.ref 56, .long a0] σ Q := by
  exact Cl.run B_Machine_push C_Machine_push 6 fk_q106 ok_Machine_push rfl h
def B_Machine_enter : fkB := [(0, [(.aload_n 0, 1, []), (.getfield 102, 3, [4, 10, 616, 0]), (.bipush 64, 2, []), (.if_icmp .lt 10, 3, [16])]),
  (9, [(.aload_n 0, 1, []), (.bipush 8, 2, []), (.putfield 108, 3, [4, 15, 622, 0]), (.return_, 1, [])]),
  (16, [(.iconst 3, 1, []), (.aload_n 0, 1, []), (.getfield 102, 3, [4, 10, 616, 0]), (.imul, 1, []), (.istore_n 3, 1, []), (.aload_n 0, 1, []), (.dup, 1, []), (.getfield 102, 3, [4, 10, 616, 0]), (.iconst 1, 1, []), (.iadd, 1, []), (.putfield 102, 3, [4, 10, 616, 0]), (.aload_n 0, 1, []), (.getfield 9, 3, [4, 0, 602, 0]), (.getfield 115, 3, [6, 4, 394, 1]), (.iload_n 1, 1, []), (.iaload, 1, []), (.istore 4, 2, []), (.aload_n 0, 1, []), (.aload_n 0, 1, []), (.getfield 99, 3, [4, 8, 614, 0]), (.aload_n 0, 1, []), (.getfield 9, 3, [4, 0, 602, 0]), (.iload 4, 2, []), (.invokevirtual 118, 3, [86, 1, 1324, 1, 4, 6]), (.isub, 1, []), (.putfield 164, 3, [4, 12, 618, 0]), (.aload_n 0, 1, []), (.getfield 40, 3, [4, 9, 615, 0]), (.iload_n 3, 1, []), (.iload_n 1, 1, []), (.iastore, 1, []), (.aload_n 0, 1, []), (.getfield 40, 3, [4, 9, 615, 0]), (.iload_n 3, 1, []), (.iconst 1, 1, []), (.iadd, 1, []), (.aload_n 0, 1, []), (.getfield 164, 3, [4, 12, 618, 0]), (.iastore, 1, []), (.aload_n 0, 1, []), (.getfield 40, 3, [4, 9, 615, 0]), (.iload_n 3, 1, []), (.iconst 2, 1, []), (.iadd, 1, []), (.iload_n 2, 1, []), (.iastore, 1, []), (.iconst 0, 1, []), (.istore 5, 2, [])]),
  (93, [(.iload 5, 2, []), (.aload_n 0, 1, []), (.getfield 15, 3, [4, 1, 603, 0]), (.getfield 167, 3, [2, 3, 324, 1]), (.iload_n 1, 1, []), (.iaload, 1, []), (.if_icmp .ge 14, 3, [118])]),
  (107, [(.aload_n 0, 1, []), (.lconst 0, 1, []), (.invokevirtual 126, 3, [106, 1, 1326, 0, 3, 4]), (.iinc 5 1, 3, []), (.goto (-22), 3, [93])]),
  (118, [(.aload_n 0, 1, []), (.aload_n 0, 1, []), (.getfield 99, 3, [4, 8, 614, 0]), (.putfield 170, 3, [4, 13, 619, 0]), (.aload_n 0, 1, []), (.aload_n 0, 1, []), (.getfield 15, 3, [4, 1, 603, 0]), (.getfield 173, 3, [2, 1, 317, 1]), (.iload_n 1, 1, []), (.iaload, 1, []), (.putfield 144, 3, [4, 11, 617, 0]), (.return_, 1, [])])]
set_option maxRecDepth 100000 in
theorem ok_Machine_enter : fk_okM 107 B_Machine_enter = true := by decide +kernel
abbrev C_Machine_enter : fkC := [(93, [true, true, false, false, false, true])]
set_option maxRecDepth 100000 in
set_option maxHeartbeats 4000000 in
theorem S_Machine_enter {d : Nat} {a0 : Int32} {a1 : Int32} {σ : fkS} {Q : Option Value → fkS → Prop} (h56_0 : σ.2.2 56 0 = 4)
  (h : (((σ.1 56 10) < (64 : Int32) →
    (¬ (4 : Nat) = 0 ∧
    (vp_in a0 60 ∧
    (¬ (4 : Nat) = 0 ∧
    (Di d 86 [.ref 3, .int (σ.1 6 a0.toNatClampNeg)] (sI σ 56 10 ((σ.1 56 10) + (1 : Int32))) (fun x2 σ1 =>
    (vp_in ((3 : Int32) * (σ.1 56 10)) 192 ∧
    (vp_in (((3 : Int32) * (σ.1 56 10)) + (1 : Int32)) 192 ∧
    (vp_in (((3 : Int32) * (σ.1 56 10)) + (2 : Int32)) 192 ∧
    Wq 107 (d + 1) 93 [some (.ref 56), some (.int a0), none, none, none, some (.int (0 : Int32))] [] (sI (sI (sI (sI (sW σ1 σ) 56 12 ((σ.1 56 8) - x2)) 61 (((3 : Int32) * (σ.1 56 10)).toNatClampNeg) a0) 61 ((((3 : Int32) * (σ.1 56 10)) + (1 : Int32)).toNatClampNeg) ((σ.1 56 8) - x2)) 61 ((((3 : Int32) * (σ.1 56 10)) + (2 : Int32)).toNatClampNeg) a1) Q))))))))) ∧
   (¬ (σ.1 56 10) < (64 : Int32) →
    Q none (sI σ 56 15 (8 : Int32))))) :
  Cl (d + 1) 107 [.ref 56, .int a0, .int a1] σ Q := by
  rw [← sR_eta h56_0] at h ⊢
  exact Cl.run B_Machine_enter C_Machine_enter 9 fk_q107 ok_Machine_enter rfl h
set_option maxRecDepth 100000 in
set_option maxHeartbeats 4000000 in
theorem S_Machine_enter_93 {d : Nat} {v1 : Int32} {v5 : Int32} {σ : fkS} {Q : Option Value → fkS → Prop} (h56_1 : σ.2.2 56 1 = 16)
  (h : (¬ (16 : Nat) = 0 ∧
  (vp_in v1 60 ∧
  (((σ.1 18 v1.toNatClampNeg) ≤ v5 →
    (¬ (16 : Nat) = 0 ∧
    (vp_in v1 60 ∧
    Q none (sI (sI σ 56 13 (σ.1 56 8)) 56 11 (σ.1 16 v1.toNatClampNeg))))) ∧
   (¬ (σ.1 18 v1.toNatClampNeg) ≤ v5 →
    (Dv d 106 [.ref 56, .long (0 : Int64)] σ (fun σ1 =>
    Wq 107 (d + 1) 93 [some (.ref 56), some (.int v1), none, none, none, some (.int (v5 + (1 : Int32)))] [] (sW σ1 σ) Q))))))) :
  Wq 107 (d + 1) 93 [some (.ref 56), some (.int v1), none, none, none, some (.int v5)] [] σ Q := by
  rw [← sR_eta h56_1] at h ⊢
  exact fk_run_sound (B := B_Machine_enter) (C := C_Machine_enter) (n := 9) ok_Machine_enter h
def B_Machine_going : fkB := [(0, [(.aload_n 0, 1, []), (.getfield 102, 3, [4, 10, 616, 0]), (.ifCond .le 35, 3, [39])]),
  (7, [(.aload_n 0, 1, []), (.getfield 108, 3, [4, 15, 622, 0]), (.ifCond .ne 28, 3, [39])]),
  (14, [(.aload_n 0, 1, []), (.getfield 144, 3, [4, 11, 617, 0]), (.ifCond .lt 21, 3, [39])]),
  (21, [(.aload_n 0, 1, []), (.getfield 144, 3, [4, 11, 617, 0]), (.aload_n 0, 1, []), (.getfield 15, 3, [4, 1, 603, 0]), (.getfield 161, 3, [2, 5, 332, 1]), (.if_icmp .ge 7, 3, [39])]),
  (35, [(.iconst 1, 1, []), (.goto 4, 3, [40])]),
  (39, [(.iconst 0, 1, [])]),
  (40, [(.ireturn, 1, [])])]
set_option maxRecDepth 100000 in
theorem ok_Machine_going : fk_okM 108 B_Machine_going = true := by decide +kernel
abbrev C_Machine_going : fkC := []
set_option maxRecDepth 100000 in
set_option maxHeartbeats 4000000 in
theorem S_Machine_going {d : Nat}  {σ : fkS} {Q : Option Value → fkS → Prop} (h56_1 : σ.2.2 56 1 = 16)
  (h : (((σ.1 56 10) ≤ 0 →
    Q (some (.int (0 : Int32))) σ) ∧
   (¬ (σ.1 56 10) ≤ 0 →
    ((¬ (σ.1 56 15) = 0 →
      Q (some (.int (0 : Int32))) σ) ∧
     ((σ.1 56 15) = 0 →
      (((σ.1 56 11) < 0 →
        Q (some (.int (0 : Int32))) σ) ∧
       (¬ (σ.1 56 11) < 0 →
        (¬ (16 : Nat) = 0 ∧
        (((σ.1 15 5) ≤ (σ.1 56 11) →
          Q (some (.int (0 : Int32))) σ) ∧
         (¬ (σ.1 15 5) ≤ (σ.1 56 11) →
          Q (some (.int (1 : Int32))) σ)))))))))) :
  Cl d 108 [.ref 56] σ Q := by
  rw [← sR_eta h56_1] at h ⊢
  exact Cl.run B_Machine_going C_Machine_going 10 fk_q108 ok_Machine_going rfl h
def B_Machine_mark : fkB := [(0, [(.iload_n 1, 1, []), (.iconst 5, 1, []), (.if_icmp .ne 24, 3, [26])]),
  (5, [(.aload_n 0, 1, []), (.aload_n 0, 1, []), (.getfield 15, 3, [4, 1, 603, 0]), (.getfield 176, 3, [2, 8, 343, 1]), (.aload_n 0, 1, []), (.getfield 144, 3, [4, 11, 617, 0]), (.iaload, 1, []), (.iconst 1, 1, []), (.iadd, 1, []), (.putfield 144, 3, [4, 11, 617, 0]), (.goto 48, 3, [71])]),
  (26, [(.aload_n 0, 1, []), (.getfield 144, 3, [4, 11, 617, 0]), (.aload_n 0, 1, []), (.getfield 15, 3, [4, 1, 603, 0]), (.getfield 179, 3, [2, 2, 321, 1]), (.aload_n 0, 1, []), (.getfield 40, 3, [4, 9, 615, 0]), (.iconst 3, 1, []), (.aload_n 0, 1, []), (.getfield 102, 3, [4, 10, 616, 0]), (.iconst 1, 1, []), (.isub, 1, []), (.imul, 1, []), (.iaload, 1, []), (.iaload, 1, []), (.if_icmp .ne 10, 3, [61])]),
  (54, [(.aload_n 0, 1, []), (.invokevirtual 182, 3, [110, 0, 1343, 0, 3, 4]), (.goto 13, 3, [71])]),
  (61, [(.aload_n 0, 1, []), (.dup, 1, []), (.getfield 144, 3, [4, 11, 617, 0]), (.iconst 1, 1, []), (.iadd, 1, []), (.putfield 144, 3, [4, 11, 617, 0])]),
  (71, [(.return_, 1, [])])]
set_option maxRecDepth 100000 in
theorem ok_Machine_mark : fk_okM 109 B_Machine_mark = true := by decide +kernel
abbrev C_Machine_mark : fkC := []
set_option maxRecDepth 100000 in
set_option maxHeartbeats 4000000 in
theorem S_Machine_mark {d : Nat} {a0 : Int32} {σ : fkS} {Q : Option Value → fkS → Prop} (h56_1 : σ.2.2 56 1 = 16)
  (h : ((¬ a0 = (5 : Int32) →
    (¬ (16 : Nat) = 0 ∧
    (vp_in ((3 : Int32) * ((σ.1 56 10) - (1 : Int32))) 192 ∧
    (vp_in (σ.1 61 (((3 : Int32) * ((σ.1 56 10) - (1 : Int32))).toNatClampNeg)) 60 ∧
    ((¬ (σ.1 56 11) = (σ.1 17 ((σ.1 61 (((3 : Int32) * ((σ.1 56 10) - (1 : Int32))).toNatClampNeg)).toNatClampNeg)) →
      Q none (sI σ 56 11 ((σ.1 56 11) + (1 : Int32)))) ∧
     ((σ.1 56 11) = (σ.1 17 ((σ.1 61 (((3 : Int32) * ((σ.1 56 10) - (1 : Int32))).toNatClampNeg)).toNatClampNeg)) →
      (Dv d 110 [.ref 56] σ (fun σ1 =>
      Q none (sW σ1 σ))))))))) ∧
   (a0 = (5 : Int32) →
    (¬ (16 : Nat) = 0 ∧
    (vp_in (σ.1 56 11) 4000 ∧
    Q none (sI σ 56 11 ((σ.1 22 ((σ.1 56 11).toNatClampNeg)) + (1 : Int32)))))))) :
  Cl (d + 1) 109 [.ref 56, .int a0] σ Q := by
  rw [← sR_eta h56_1] at h ⊢
  exact Cl.run B_Machine_mark C_Machine_mark 9 fk_q109 ok_Machine_mark rfl h
def B_Machine_leave : fkB := [(0, [(.iconst 3, 1, []), (.aload_n 0, 1, []), (.getfield 102, 3, [4, 10, 616, 0]), (.iconst 1, 1, []), (.isub, 1, []), (.imul, 1, []), (.istore_n 1, 1, []), (.aload_n 0, 1, []), (.getfield 9, 3, [4, 0, 602, 0]), (.aload_n 0, 1, []), (.getfield 9, 3, [4, 0, 602, 0]), (.getfield 115, 3, [6, 4, 394, 1]), (.aload_n 0, 1, []), (.getfield 40, 3, [4, 9, 615, 0]), (.iload_n 1, 1, []), (.iaload, 1, []), (.iaload, 1, []), (.invokevirtual 154, 3, [68, 1, 1347, 1, 4, 6]), (.istore_n 2, 1, []), (.iload_n 2, 1, []), (.ifCond .ne 7, 3, [39])]),
  (35, [(.lconst 0, 1, []), (.goto 7, 3, [43])]),
  (39, [(.aload_n 0, 1, []), (.invokevirtual 157, 3, [111, 0, 1348, 0, 5, 4])]),
  (43, [(.lstore_n 3, 1, []), (.aload_n 0, 1, []), (.aload_n 0, 1, []), (.getfield 40, 3, [4, 9, 615, 0]), (.iload_n 1, 1, []), (.iconst 1, 1, []), (.iadd, 1, []), (.iaload, 1, []), (.putfield 99, 3, [4, 8, 614, 0]), (.iload_n 2, 1, []), (.ifCond .eq 8, 3, [65])]),
  (60, [(.aload_n 0, 1, []), (.lload_n 3, 1, []), (.invokevirtual 126, 3, [106, 1, 1326, 0, 3, 4])]),
  (65, [(.aload_n 0, 1, []), (.aload_n 0, 1, []), (.getfield 40, 3, [4, 9, 615, 0]), (.iload_n 1, 1, []), (.iconst 2, 1, []), (.iadd, 1, []), (.iaload, 1, []), (.putfield 144, 3, [4, 11, 617, 0]), (.aload_n 0, 1, []), (.dup, 1, []), (.getfield 102, 3, [4, 10, 616, 0]), (.iconst 1, 1, []), (.isub, 1, []), (.putfield 102, 3, [4, 10, 616, 0]), (.aload_n 0, 1, []), (.getfield 102, 3, [4, 10, 616, 0]), (.ifCond .le 62, 3, [153])]),
  (94, [(.aload_n 0, 1, []), (.getfield 40, 3, [4, 9, 615, 0]), (.iload_n 1, 1, []), (.iconst 3, 1, []), (.isub, 1, []), (.iaload, 1, []), (.istore 5, 2, []), (.aload_n 0, 1, []), (.aload_n 0, 1, []), (.getfield 40, 3, [4, 9, 615, 0]), (.iload_n 1, 1, []), (.iconst 2, 1, []), (.isub, 1, []), (.iaload, 1, []), (.putfield 164, 3, [4, 12, 618, 0]), (.aload_n 0, 1, []), (.aload_n 0, 1, []), (.getfield 164, 3, [4, 12, 618, 0]), (.aload_n 0, 1, []), (.getfield 9, 3, [4, 0, 602, 0]), (.aload_n 0, 1, []), (.getfield 9, 3, [4, 0, 602, 0]), (.getfield 115, 3, [6, 4, 394, 1]), (.iload 5, 2, []), (.iaload, 1, []), (.invokevirtual 118, 3, [86, 1, 1324, 1, 4, 6]), (.iadd, 1, []), (.aload_n 0, 1, []), (.getfield 15, 3, [4, 1, 603, 0]), (.getfield 167, 3, [2, 3, 324, 1]), (.iload 5, 2, []), (.iaload, 1, []), (.iadd, 1, []), (.putfield 170, 3, [4, 13, 619, 0])]),
  (153, [(.return_, 1, [])])]
set_option maxRecDepth 100000 in
theorem ok_Machine_leave : fk_okM 110 B_Machine_leave = true := by decide +kernel
abbrev C_Machine_leave : fkC := [(43, [true, true, true, false, false, false]), (65, [true, true, false, false, false, false])]
set_option maxRecDepth 100000 in
set_option maxHeartbeats 4000000 in
theorem S_Machine_leave {d : Nat}  {σ : fkS} {Q : Option Value → fkS → Prop} (h56_0 : σ.2.2 56 0 = 4)
  (h : (¬ (4 : Nat) = 0 ∧
  (¬ (4 : Nat) = 0 ∧
  (vp_in ((3 : Int32) * ((σ.1 56 10) - (1 : Int32))) 192 ∧
  (vp_in (σ.1 61 (((3 : Int32) * ((σ.1 56 10) - (1 : Int32))).toNatClampNeg)) 60 ∧
  (Di d 68 [.ref 3, .int (σ.1 6 ((σ.1 61 (((3 : Int32) * ((σ.1 56 10) - (1 : Int32))).toNatClampNeg)).toNatClampNeg))] σ (fun x2 σ1 =>
  ((¬ x2 = 0 →
    (Dj d 111 [.ref 56] (sW σ1 σ) (fun x4 σ3 =>
    Wq 110 (d + 1) 43 [some (.ref 56), some (.int ((3 : Int32) * ((σ.1 56 10) - (1 : Int32)))), some (.int x2), none, none, none] [.long x4] (sW σ3 σ) Q))) ∧
   (x2 = 0 →
    Wq 110 (d + 1) 43 [some (.ref 56), some (.int ((3 : Int32) * ((σ.1 56 10) - (1 : Int32)))), some (.int x2), none, none, none] [.long (0 : Int64)] (sW σ1 σ) Q))))))))) :
  Cl (d + 1) 110 [.ref 56] σ Q := by
  rw [← sR_eta h56_0] at h ⊢
  exact Cl.run B_Machine_leave C_Machine_leave 11 fk_q110 ok_Machine_leave rfl h
set_option maxRecDepth 100000 in
set_option maxHeartbeats 4000000 in
theorem S_Machine_leave_43 {d : Nat} {v1 : Int32} {v2 : Int32} {s0 : Int64} {σ : fkS} {Q : Option Value → fkS → Prop} 
  (h : (vp_in (v1 + (1 : Int32)) 192 ∧
  ((v2 = 0 →
    Wq 110 (d + 1) 65 [some (.ref 56), some (.int v1), none, none, none, none] [] (sI σ 56 8 (σ.1 61 ((v1 + (1 : Int32)).toNatClampNeg))) Q) ∧
   (¬ v2 = 0 →
    (Dv d 106 [.ref 56, .long s0] (sI σ 56 8 (σ.1 61 ((v1 + (1 : Int32)).toNatClampNeg))) (fun σ1 =>
    Wq 110 (d + 1) 65 [some (.ref 56), some (.int v1), none, none, none, none] [] (sW σ1 σ) Q)))))) :
  Wq 110 (d + 1) 43 [some (.ref 56), some (.int v1), some (.int v2), none, none, none] [.long s0] σ Q := by
  exact fk_run_sound (B := B_Machine_leave) (C := C_Machine_leave) (n := 11) ok_Machine_leave h
set_option maxRecDepth 100000 in
set_option maxHeartbeats 4000000 in
theorem S_Machine_leave_65 {d : Nat} {v1 : Int32} {σ : fkS} {Q : Option Value → fkS → Prop} (h56_0 : σ.2.2 56 0 = 4) (h56_1 : σ.2.2 56 1 = 16)
  (h : (vp_in (v1 + (2 : Int32)) 192 ∧
  ((((σ.1 56 10) - (1 : Int32)) ≤ 0 →
    Q none (sI (sI σ 56 11 (σ.1 61 ((v1 + (2 : Int32)).toNatClampNeg))) 56 10 ((σ.1 56 10) - (1 : Int32)))) ∧
   (¬ ((σ.1 56 10) - (1 : Int32)) ≤ 0 →
    (vp_in (v1 - (3 : Int32)) 192 ∧
    (vp_in (v1 - (2 : Int32)) 192 ∧
    (¬ (4 : Nat) = 0 ∧
    (¬ (4 : Nat) = 0 ∧
    (vp_in (σ.1 61 ((v1 - (3 : Int32)).toNatClampNeg)) 60 ∧
    (Di d 86 [.ref 3, .int (σ.1 6 ((σ.1 61 ((v1 - (3 : Int32)).toNatClampNeg)).toNatClampNeg))] (sI (sI (sI σ 56 11 (σ.1 61 ((v1 + (2 : Int32)).toNatClampNeg))) 56 10 ((σ.1 56 10) - (1 : Int32))) 56 12 (σ.1 61 ((v1 - (2 : Int32)).toNatClampNeg))) (fun x2 σ1 =>
    (¬ (16 : Nat) = 0 ∧
    (vp_in (σ.1 61 ((v1 - (3 : Int32)).toNatClampNeg)) 60 ∧
    Q none (sI (sW σ1 σ) 56 13 (((σ.1 61 ((v1 - (2 : Int32)).toNatClampNeg)) + x2) + ((sW σ1 σ).1 18 ((σ.1 61 ((v1 - (3 : Int32)).toNatClampNeg)).toNatClampNeg))))))))))))))))) :
  Wq 110 (d + 1) 65 [some (.ref 56), some (.int v1), none, none, none, none] [] σ Q := by
  rw [← sR_eta h56_0] at h ⊢
  rw [← sR_eta h56_1] at h ⊢
  exact fk_run_sound (B := B_Machine_leave) (C := C_Machine_leave) (n := 11) ok_Machine_leave h
def B_Machine_pop : fkB := [(0, [(.aload_n 0, 1, []), (.getfield 99, 3, [4, 8, 614, 0]), (.ifCond .gt 5, 3, [9])]),
  (7, [(.lconst 0, 1, []), (.lreturn, 1, [])]),
  (9, [(.aload_n 0, 1, []), (.dup, 1, []), (.getfield 99, 3, [4, 8, 614, 0]), (.iconst 1, 1, []), (.isub, 1, []), (.putfield 99, 3, [4, 8, 614, 0]), (.aload_n 0, 1, []), (.getfield 37, 3, [4, 7, 613, 0]), (.aload_n 0, 1, []), (.getfield 99, 3, [4, 8, 614, 0]), (.laload, 1, []), (.lreturn, 1, [])])]
set_option maxRecDepth 100000 in
theorem ok_Machine_pop : fk_okM 111 B_Machine_pop = true := by decide +kernel
abbrev C_Machine_pop : fkC := []
set_option maxRecDepth 100000 in
set_option maxHeartbeats 4000000 in
theorem S_Machine_pop {d : Nat}  {σ : fkS} {Q : Option Value → fkS → Prop} 
  (h : ((0 < (σ.1 56 8) →
    (vp_in ((σ.1 56 8) - (1 : Int32)) 24000 ∧
    Q (some (.long (σ.2.1 60 (((σ.1 56 8) - (1 : Int32)).toNatClampNeg)))) (sI σ 56 8 ((σ.1 56 8) - (1 : Int32))))) ∧
   (¬ 0 < (σ.1 56 8) →
    Q (some (.long (0 : Int64))) σ))) :
  Cl d 111 [.ref 56] σ Q := by
  exact Cl.run B_Machine_pop C_Machine_pop 6 fk_q111 ok_Machine_pop rfl h
def B_Machine_step : fkB := [(0, [(.iload_n 1, 1, []), (.bipush 17, 2, []), (.if_icmp .gt 12, 3, [15])]),
  (6, [(.aload_n 0, 1, []), (.iload_n 1, 1, []), (.iload_n 2, 1, []), (.invokevirtual 185, 3, [113, 2, 1356, 0, 3, 4]), (.goto 131, 3, [143])]),
  (15, [(.iload_n 1, 1, []), (.bipush 36, 2, []), (.if_icmp .gt 21, 3, [39])]),
  (21, [(.aload_n 0, 1, []), (.iload_n 1, 1, []), (.aload_n 0, 1, []), (.getfield 15, 3, [4, 1, 603, 0]), (.getfield 188, 3, [2, 7, 339, 1]), (.iload_n 2, 1, []), (.laload, 1, []), (.l2i, 1, []), (.invokevirtual 191, 3, [117, 2, 1376, 0, 3, 4]), (.goto 107, 3, [143])]),
  (39, [(.iload_n 1, 1, []), (.bipush 63, 2, []), (.if_icmp .ne 15, 3, [57])]),
  (45, [(.aload_n 0, 1, []), (.aload_n 0, 1, []), (.getfield 26, 3, [4, 4, 607, 0]), (.i2l, 1, []), (.invokevirtual 126, 3, [106, 1, 1326, 0, 3, 4]), (.goto 89, 3, [143])]),
  (57, [(.iload_n 1, 1, []), (.bipush 64, 2, []), (.if_icmp .ne 10, 3, [70])]),
  (63, [(.aload_n 0, 1, []), (.invokevirtual 194, 3, [119, 0, 1384, 0, 3, 4]), (.goto 76, 3, [143])]),
  (70, [(.iload_n 1, 1, []), (.bipush 53, 2, []), (.if_icmp .gt 20, 3, [93])]),
  (76, [(.aload_n 0, 1, []), (.iload_n 1, 1, []), (.aload_n 0, 1, []), (.getfield 15, 3, [4, 1, 603, 0]), (.getfield 188, 3, [2, 7, 339, 1]), (.iload_n 2, 1, []), (.laload, 1, []), (.invokevirtual 197, 3, [120, 2, 1390, 0, 3, 4]), (.goto 53, 3, [143])]),
  (93, [(.iload_n 1, 1, []), (.bipush 62, 2, []), (.if_icmp .gt 20, 3, [116])]),
  (99, [(.aload_n 0, 1, []), (.iload_n 1, 1, []), (.aload_n 0, 1, []), (.getfield 15, 3, [4, 1, 603, 0]), (.getfield 188, 3, [2, 7, 339, 1]), (.iload_n 2, 1, []), (.laload, 1, []), (.invokevirtual 201, 3, [124, 2, 1408, 0, 3, 4]), (.goto 30, 3, [143])]),
  (116, [(.iload_n 1, 1, []), (.bipush 66, 2, []), (.if_icmp .gt 19, 3, [138])]),
  (122, [(.aload_n 0, 1, []), (.aload_n 0, 1, []), (.getfield 15, 3, [4, 1, 603, 0]), (.getfield 188, 3, [2, 7, 339, 1]), (.iload_n 2, 1, []), (.laload, 1, []), (.invokevirtual 126, 3, [106, 1, 1326, 0, 3, 4]), (.goto 8, 3, [143])]),
  (138, [(.aload_n 0, 1, []), (.iload_n 1, 1, []), (.invokevirtual 204, 3, [126, 1, 1417, 0, 3, 4])]),
  (143, [(.return_, 1, [])])]
set_option maxRecDepth 100000 in
theorem ok_Machine_step : fk_okM 112 B_Machine_step = true := by decide +kernel
abbrev C_Machine_step : fkC := []
set_option maxRecDepth 100000 in
set_option maxHeartbeats 4000000 in
theorem S_Machine_step {d : Nat} {a0 : Int32} {a1 : Int32} {σ : fkS} {Q : Option Value → fkS → Prop} (h56_1 : σ.2.2 56 1 = 16)
  (h : (((17 : Int32) < a0 →
    (((36 : Int32) < a0 →
      ((¬ a0 = (63 : Int32) →
        ((¬ a0 = (64 : Int32) →
          (((53 : Int32) < a0 →
            (((62 : Int32) < a0 →
              (((66 : Int32) < a0 →
                (Dv d 126 [.ref 56, .int a0] σ (fun σ1 =>
                Q none (sW σ1 σ)))) ∧
               (¬ (66 : Int32) < a0 →
                (¬ (16 : Nat) = 0 ∧
                (vp_in a1 4000 ∧
                (Dv d 106 [.ref 56, .long (σ.2.1 21 a1.toNatClampNeg)] σ (fun σ2 =>
                Q none (sW σ2 σ)))))))) ∧
             (¬ (62 : Int32) < a0 →
              (¬ (16 : Nat) = 0 ∧
              (vp_in a1 4000 ∧
              (Dv d 124 [.ref 56, .int a0, .long (σ.2.1 21 a1.toNatClampNeg)] σ (fun σ3 =>
              Q none (sW σ3 σ)))))))) ∧
           (¬ (53 : Int32) < a0 →
            (¬ (16 : Nat) = 0 ∧
            (vp_in a1 4000 ∧
            (Dv d 120 [.ref 56, .int a0, .long (σ.2.1 21 a1.toNatClampNeg)] σ (fun σ4 =>
            Q none (sW σ4 σ)))))))) ∧
         (a0 = (64 : Int32) →
          (Dv d 119 [.ref 56] σ (fun σ5 =>
          Q none (sW σ5 σ)))))) ∧
       (a0 = (63 : Int32) →
        (Dv d 106 [.ref 56, .long ((σ.1 56 4).toInt64)] σ (fun σ6 =>
        Q none (sW σ6 σ)))))) ∧
     (¬ (36 : Int32) < a0 →
      (¬ (16 : Nat) = 0 ∧
      (vp_in a1 4000 ∧
      (Dv d 117 [.ref 56, .int a0, .int ((σ.2.1 21 a1.toNatClampNeg).toInt32)] σ (fun σ7 =>
      Q none (sW σ7 σ)))))))) ∧
   (¬ (17 : Int32) < a0 →
    (Dv d 113 [.ref 56, .int a0, .int a1] σ (fun σ8 =>
    Q none (sW σ8 σ)))))) :
  Cl (d + 1) 112 [.ref 56, .int a0, .int a1] σ Q := by
  rw [← sR_eta h56_1] at h ⊢
  exact Cl.run B_Machine_step C_Machine_step 19 fk_q112 ok_Machine_step rfl h
def B_Machine_control : fkB := [(0, [(.aload_n 0, 1, []), (.getfield 15, 3, [4, 1, 603, 0]), (.getfield 188, 3, [2, 7, 339, 1]), (.iload_n 2, 1, []), (.laload, 1, []), (.l2i, 1, []), (.istore_n 3, 1, []), (.iload_n 1, 1, []), (.tableswitch 208 0 17 #[88, 208, 208, 208, 96, 208, 208, 208, 208, 208, 208, 208, 122, 130, 146, 181, 188, 200], 88, [220, 100, 220, 220, 220, 108, 220, 220, 220, 220, 220, 220, 220, 134, 142, 158, 193, 200, 212])]),
  (100, [(.aload_n 0, 1, []), (.iconst 1, 1, []), (.putfield 108, 3, [4, 15, 622, 0]), (.goto 115, 3, [220])]),
  (108, [(.aload_n 0, 1, []), (.invokevirtual 157, 3, [111, 0, 1348, 0, 5, 4]), (.l2i, 1, []), (.ifCond .ne 107, 3, [220])]),
  (116, [(.aload_n 0, 1, []), (.aload_n 0, 1, []), (.getfield 15, 3, [4, 1, 603, 0]), (.getfield 176, 3, [2, 8, 343, 1]), (.iload_n 2, 1, []), (.iaload, 1, []), (.iconst 1, 1, []), (.iadd, 1, []), (.putfield 144, 3, [4, 11, 617, 0]), (.goto 89, 3, [220])]),
  (134, [(.aload_n 0, 1, []), (.iload_n 3, 1, []), (.invokevirtual 207, 3, [114, 1, 1360, 0, 3, 4]), (.goto 81, 3, [220])]),
  (142, [(.aload_n 0, 1, []), (.invokevirtual 157, 3, [111, 0, 1348, 0, 5, 4]), (.l2i, 1, []), (.ifCond .eq 73, 3, [220])]),
  (150, [(.aload_n 0, 1, []), (.iload_n 3, 1, []), (.invokevirtual 207, 3, [114, 1, 1360, 0, 3, 4]), (.goto 65, 3, [220])]),
  (158, [(.aload_n 0, 1, []), (.invokevirtual 157, 3, [111, 0, 1348, 0, 5, 4]), (.ldc2_w 57, 3, [4294967295, 1284]), (.land, 1, []), (.lstore 4, 2, []), (.aload_n 0, 1, []), (.iload_n 3, 1, []), (.lload 4, 2, []), (.aload_n 0, 1, []), (.getfield 15, 3, [4, 1, 603, 0]), (.getfield 176, 3, [2, 8, 343, 1]), (.iload_n 2, 1, []), (.iaload, 1, []), (.i2l, 1, []), (.invokestatic 210, 3, [1003, 0, 1364]), (.l2i, 1, []), (.iadd, 1, []), (.invokevirtual 207, 3, [114, 1, 1360, 0, 3, 4]), (.goto 30, 3, [220])]),
  (193, [(.aload_n 0, 1, []), (.invokevirtual 182, 3, [110, 0, 1343, 0, 3, 4]), (.goto 23, 3, [220])]),
  (200, [(.aload_n 0, 1, []), (.iload_n 3, 1, []), (.aload_n 0, 1, []), (.getfield 144, 3, [4, 11, 617, 0]), (.invokevirtual 130, 3, [107, 2, 1330, 0, 3, 4]), (.goto 11, 3, [220])]),
  (212, [(.aload_n 0, 1, []), (.iload_n 3, 1, []), (.invokevirtual 216, 3, [115, 1, 1365, 0, 3, 4]), (.goto 3, 3, [220])]),
  (220, [(.return_, 1, [])])]
set_option maxRecDepth 100000 in
theorem ok_Machine_control : fk_okM 113 B_Machine_control = true := by decide +kernel
abbrev C_Machine_control : fkC := []
set_option maxRecDepth 100000 in
set_option maxHeartbeats 4000000 in
theorem S_Machine_control {d : Nat} {a0 : Int32} {a1 : Int32} {σ : fkS} {Q : Option Value → fkS → Prop} (h56_1 : σ.2.2 56 1 = 16)
  (h : (¬ (16 : Nat) = 0 ∧
  (vp_in a1 4000 ∧
  (((a0.toInt < 0 ∨ 17 < a0.toInt) →
    Q none σ) ∧
   (a0.toInt = 0 →
    Q none (sI σ 56 15 (1 : Int32))) ∧
   (a0.toInt = 1 →
    Q none σ) ∧
   (a0.toInt = 2 →
    Q none σ) ∧
   (a0.toInt = 3 →
    Q none σ) ∧
   (a0.toInt = 4 →
    (Dj d 111 [.ref 56] σ (fun x2 σ1 =>
    ((¬ x2.toInt32 = 0 →
      Q none (sW σ1 σ)) ∧
     (x2.toInt32 = 0 →
      (¬ (16 : Nat) = 0 ∧
      (vp_in a1 4000 ∧
      Q none (sI (sW σ1 σ) 56 11 (((sW σ1 σ).1 22 a1.toNatClampNeg) + (1 : Int32)))))))))) ∧
   (a0.toInt = 5 →
    Q none σ) ∧
   (a0.toInt = 6 →
    Q none σ) ∧
   (a0.toInt = 7 →
    Q none σ) ∧
   (a0.toInt = 8 →
    Q none σ) ∧
   (a0.toInt = 9 →
    Q none σ) ∧
   (a0.toInt = 10 →
    Q none σ) ∧
   (a0.toInt = 11 →
    Q none σ) ∧
   (a0.toInt = 12 →
    (Dv d 114 [.ref 56, .int ((σ.2.1 21 a1.toNatClampNeg).toInt32)] σ (fun σ3 =>
    Q none (sW σ3 σ)))) ∧
   (a0.toInt = 13 →
    (Dj d 111 [.ref 56] σ (fun x5 σ4 =>
    ((x5.toInt32 = 0 →
      Q none (sW σ4 σ)) ∧
     (¬ x5.toInt32 = 0 →
      (Dv d 114 [.ref 56, .int ((σ.2.1 21 a1.toNatClampNeg).toInt32)] (sW σ4 σ) (fun σ6 =>
      Q none (sW σ6 σ)))))))) ∧
   (a0.toInt = 14 →
    (Dj d 111 [.ref 56] σ (fun x8 σ7 =>
    (¬ (16 : Nat) = 0 ∧
    (vp_in a1 4000 ∧
    (Dv d 114 [.ref 56, .int (((σ.2.1 21 a1.toNatClampNeg).toInt32) + ((if (((sW σ7 σ).1 22 a1.toNatClampNeg).toInt64) < (x8 &&& (Int64.ofNat 4294967295)) then (((sW σ7 σ).1 22 a1.toNatClampNeg).toInt64) else (x8 &&& (Int64.ofNat 4294967295))).toInt32))] (sW σ7 σ) (fun σ9 =>
    Q none (sW σ9 σ)))))))) ∧
   (a0.toInt = 15 →
    (Dv d 110 [.ref 56] σ (fun σ10 =>
    Q none (sW σ10 σ)))) ∧
   (a0.toInt = 16 →
    (Dv d 107 [.ref 56, .int ((σ.2.1 21 a1.toNatClampNeg).toInt32), .int (σ.1 56 11)] σ (fun σ11 =>
    Q none (sW σ11 σ)))) ∧
   (a0.toInt = 17 →
    (Dv d 115 [.ref 56, .int ((σ.2.1 21 a1.toNatClampNeg).toInt32)] σ (fun σ12 =>
    Q none (sW σ12 σ)))) ∧ True)))) :
  Cl (d + 1) 113 [.ref 56, .int a0, .int a1] σ Q := by
  rw [← sR_eta h56_1] at h ⊢
  exact Cl.run B_Machine_control C_Machine_control 15 fk_q113 ok_Machine_control rfl h
def B_Machine_branch : fkB := [(0, [(.aload_n 0, 1, []), (.getfield 15, 3, [4, 1, 603, 0]), (.getfield 219, 3, [2, 10, 349, 1]), (.iconst 3, 1, []), (.iload_n 1, 1, []), (.imul, 1, []), (.iconst 2, 1, []), (.iadd, 1, []), (.iaload, 1, []), (.iconst 1, 1, []), (.if_icmp .ne 7, 3, [21])]),
  (17, [(.iconst 1, 1, []), (.goto 4, 3, [22])]),
  (21, [(.iconst 0, 1, [])]),
  (22, [(.istore_n 2, 1, []), (.iload_n 2, 1, []), (.ifCond .eq 10, 3, [34])]),
  (27, [(.aload_n 0, 1, []), (.invokevirtual 157, 3, [111, 0, 1348, 0, 5, 4]), (.goto 4, 3, [35])]),
  (34, [(.lconst 0, 1, [])]),
  (35, [(.lstore_n 3, 1, []), (.aload_n 0, 1, []), (.aload_n 0, 1, []), (.getfield 170, 3, [4, 13, 619, 0]), (.aload_n 0, 1, []), (.getfield 15, 3, [4, 1, 603, 0]), (.getfield 219, 3, [2, 10, 349, 1]), (.iconst 3, 1, []), (.iload_n 1, 1, []), (.imul, 1, []), (.iconst 1, 1, []), (.iadd, 1, []), (.iaload, 1, []), (.iadd, 1, []), (.putfield 99, 3, [4, 8, 614, 0]), (.iload_n 2, 1, []), (.ifCond .eq 8, 3, [67])]),
  (62, [(.aload_n 0, 1, []), (.lload_n 3, 1, []), (.invokevirtual 126, 3, [106, 1, 1326, 0, 3, 4])]),
  (67, [(.aload_n 0, 1, []), (.aload_n 0, 1, []), (.getfield 15, 3, [4, 1, 603, 0]), (.getfield 219, 3, [2, 10, 349, 1]), (.iconst 3, 1, []), (.iload_n 1, 1, []), (.imul, 1, []), (.iaload, 1, []), (.putfield 144, 3, [4, 11, 617, 0]), (.return_, 1, [])])]
set_option maxRecDepth 100000 in
theorem ok_Machine_branch : fk_okM 114 B_Machine_branch = true := by decide +kernel
abbrev C_Machine_branch : fkC := [(35, [true, true, true, false, false])]
set_option maxRecDepth 100000 in
set_option maxHeartbeats 4000000 in
theorem S_Machine_branch {d : Nat} {a0 : Int32} {σ : fkS} {Q : Option Value → fkS → Prop} (h56_1 : σ.2.2 56 1 = 16)
  (h : (¬ (16 : Nat) = 0 ∧
  (vp_in (((3 : Int32) * a0) + (2 : Int32)) 12000 ∧
  ((¬ (σ.1 23 ((((3 : Int32) * a0) + (2 : Int32)).toNatClampNeg)) = (1 : Int32) →
    (((0 : Int32) = 0 →
      Wq 114 (d + 1) 35 [some (.ref 56), some (.int a0), some (.int (0 : Int32)), none, none] [.long (0 : Int64)] σ Q) ∧
     (¬ (0 : Int32) = 0 →
      (Dj d 111 [.ref 56] σ (fun x2 σ1 =>
      Wq 114 (d + 1) 35 [some (.ref 56), some (.int a0), some (.int (0 : Int32)), none, none] [.long x2] (sW σ1 σ) Q))))) ∧
   ((σ.1 23 ((((3 : Int32) * a0) + (2 : Int32)).toNatClampNeg)) = (1 : Int32) →
    (((1 : Int32) = 0 →
      Wq 114 (d + 1) 35 [some (.ref 56), some (.int a0), some (.int (1 : Int32)), none, none] [.long (0 : Int64)] σ Q) ∧
     (¬ (1 : Int32) = 0 →
      (Dj d 111 [.ref 56] σ (fun x4 σ3 =>
      Wq 114 (d + 1) 35 [some (.ref 56), some (.int a0), some (.int (1 : Int32)), none, none] [.long x4] (sW σ3 σ) Q))))))))) :
  Cl (d + 1) 114 [.ref 56, .int a0] σ Q := by
  rw [← sR_eta h56_1] at h ⊢
  exact Cl.run B_Machine_branch C_Machine_branch 12 fk_q114 ok_Machine_branch rfl h
set_option maxRecDepth 100000 in
set_option maxHeartbeats 4000000 in
theorem S_Machine_branch_35 {d : Nat} {v1 : Int32} {v2 : Int32} {s0 : Int64} {σ : fkS} {Q : Option Value → fkS → Prop} (h56_1 : σ.2.2 56 1 = 16)
  (h : (¬ (16 : Nat) = 0 ∧
  (vp_in (((3 : Int32) * v1) + (1 : Int32)) 12000 ∧
  ((v2 = 0 →
    (¬ (16 : Nat) = 0 ∧
    (vp_in ((3 : Int32) * v1) 12000 ∧
    Q none (sI (sI σ 56 8 ((σ.1 56 13) + (σ.1 23 ((((3 : Int32) * v1) + (1 : Int32)).toNatClampNeg)))) 56 11 (σ.1 23 (((3 : Int32) * v1).toNatClampNeg)))))) ∧
   (¬ v2 = 0 →
    (Dv d 106 [.ref 56, .long s0] (sI σ 56 8 ((σ.1 56 13) + (σ.1 23 ((((3 : Int32) * v1) + (1 : Int32)).toNatClampNeg)))) (fun σ1 =>
    (¬ (16 : Nat) = 0 ∧
    (vp_in ((3 : Int32) * v1) 12000 ∧
    Q none (sI (sW σ1 σ) 56 11 ((sW σ1 σ).1 23 (((3 : Int32) * v1).toNatClampNeg)))))))))))) :
  Wq 114 (d + 1) 35 [some (.ref 56), some (.int v1), some (.int v2), none, none] [.long s0] σ Q := by
  rw [← sR_eta h56_1] at h ⊢
  exact fk_run_sound (B := B_Machine_branch) (C := C_Machine_branch) (n := 12) ok_Machine_branch h
def B_Machine_callIndirect : fkB := [(0, [(.aload_n 0, 1, []), (.invokevirtual 157, 3, [111, 0, 1348, 0, 5, 4]), (.ldc2_w 57, 3, [4294967295, 1284]), (.land, 1, []), (.lstore_n 2, 1, []), (.lload_n 2, 1, []), (.aload_n 0, 1, []), (.getfield 34, 3, [4, 6, 611, 0]), (.i2l, 1, []), (.lcmp, 1, []), (.ifCond .lt 9, 3, [25])]),
  (19, [(.aload_n 0, 1, []), (.iconst 5, 1, []), (.putfield 108, 3, [4, 15, 622, 0]), (.return_, 1, [])]),
  (25, [(.aload_n 0, 1, []), (.getfield 30, 3, [4, 5, 609, 0]), (.lload_n 2, 1, []), (.l2i, 1, []), (.iaload, 1, []), (.istore 4, 2, []), (.iload 4, 2, []), (.ifCond .ge 12, 3, [48])]),
  (39, [(.aload_n 0, 1, []), (.bipush 6, 2, []), (.putfield 108, 3, [4, 15, 622, 0]), (.goto 43, 3, [88])]),
  (48, [(.aload_n 0, 1, []), (.getfield 9, 3, [4, 0, 602, 0]), (.iload_n 1, 1, []), (.aload_n 0, 1, []), (.getfield 9, 3, [4, 0, 602, 0]), (.getfield 115, 3, [6, 4, 394, 1]), (.iload 4, 2, []), (.iaload, 1, []), (.invokevirtual 222, 3, [116, 2, 1369, 1, 4, 6]), (.ifCond .ne 12, 3, [78])]),
  (69, [(.aload_n 0, 1, []), (.bipush 7, 2, []), (.putfield 108, 3, [4, 15, 622, 0]), (.goto 13, 3, [88])]),
  (78, [(.aload_n 0, 1, []), (.iload 4, 2, []), (.aload_n 0, 1, []), (.getfield 144, 3, [4, 11, 617, 0]), (.invokevirtual 130, 3, [107, 2, 1330, 0, 3, 4])]),
  (88, [(.return_, 1, [])])]
set_option maxRecDepth 100000 in
theorem ok_Machine_callIndirect : fk_okM 115 B_Machine_callIndirect = true := by decide +kernel
abbrev C_Machine_callIndirect : fkC := []
set_option maxRecDepth 100000 in
set_option maxHeartbeats 4000000 in
theorem S_Machine_callIndirect {d : Nat} {a0 : Int32} {σ : fkS} {Q : Option Value → fkS → Prop} (h56_0 : σ.2.2 56 0 = 4)
  (h : (Dj d 111 [.ref 56] σ (fun x2 σ1 =>
  (((lg_cmp (x2 &&& (Int64.ofNat 4294967295)) (((sW σ1 σ).1 56 6).toInt64)) < 0 →
    (vp_in ((x2 &&& (Int64.ofNat 4294967295)).toInt32) 100 ∧
    ((0 ≤ ((sW σ1 σ).1 59 (((x2 &&& (Int64.ofNat 4294967295)).toInt32).toNatClampNeg)) →
      (¬ (4 : Nat) = 0 ∧
      (¬ (4 : Nat) = 0 ∧
      (vp_in ((sW σ1 σ).1 59 (((x2 &&& (Int64.ofNat 4294967295)).toInt32).toNatClampNeg)) 60 ∧
      (Di d 116 [.ref 3, .int a0, .int ((sW σ1 σ).1 6 (((sW σ1 σ).1 59 (((x2 &&& (Int64.ofNat 4294967295)).toInt32).toNatClampNeg)).toNatClampNeg))] (sW σ1 σ) (fun x4 σ3 =>
      ((¬ x4 = 0 →
        (Dv d 107 [.ref 56, .int ((sW σ1 σ).1 59 (((x2 &&& (Int64.ofNat 4294967295)).toInt32).toNatClampNeg)), .int ((sW σ3 σ).1 56 11)] (sW σ3 σ) (fun σ5 =>
        Q none (sW σ5 σ)))) ∧
       (x4 = 0 →
        Q none (sI (sW σ3 σ) 56 15 (7 : Int32)))))))))) ∧
     (¬ 0 ≤ ((sW σ1 σ).1 59 (((x2 &&& (Int64.ofNat 4294967295)).toInt32).toNatClampNeg)) →
      Q none (sI (sW σ1 σ) 56 15 (6 : Int32)))))) ∧
   (¬ (lg_cmp (x2 &&& (Int64.ofNat 4294967295)) (((sW σ1 σ).1 56 6).toInt64)) < 0 →
    Q none (sI (sW σ1 σ) 56 15 (5 : Int32))))))) :
  Cl (d + 1) 115 [.ref 56, .int a0] σ Q := by
  rw [← sR_eta h56_0] at h ⊢
  exact Cl.run B_Machine_callIndirect C_Machine_callIndirect 11 fk_q115 ok_Machine_callIndirect rfl h
def B_Machine_variable : fkB := [(0, [(.iload_n 1, 1, []), (.lookupswitch 113 #[(26, 43), (27, 51), (35, 87), (36, 100)], 43, [114, 44, 52, 88, 101])]),
  (44, [(.aload_n 0, 1, []), (.invokevirtual 157, 3, [111, 0, 1348, 0, 5, 4]), (.pop2, 1, []), (.goto 76, 3, [125])]),
  (52, [(.aload_n 0, 1, []), (.invokevirtual 157, 3, [111, 0, 1348, 0, 5, 4]), (.l2i, 1, []), (.istore_n 3, 1, []), (.aload_n 0, 1, []), (.invokevirtual 157, 3, [111, 0, 1348, 0, 5, 4]), (.lstore 4, 2, []), (.aload_n 0, 1, []), (.invokevirtual 157, 3, [111, 0, 1348, 0, 5, 4]), (.lstore 6, 2, []), (.aload_n 0, 1, []), (.iload_n 3, 1, []), (.ifCond .eq 8, 3, [80])]),
  (75, [(.lload 6, 2, []), (.goto 5, 3, [82])]),
  (80, [(.lload 4, 2, [])]),
  (82, [(.invokevirtual 126, 3, [106, 1, 1326, 0, 3, 4]), (.goto 40, 3, [125])]),
  (88, [(.aload_n 0, 1, []), (.aload_n 0, 1, []), (.getfield 19, 3, [4, 2, 604, 0]), (.iload_n 2, 1, []), (.laload, 1, []), (.invokevirtual 126, 3, [106, 1, 1326, 0, 3, 4]), (.goto 27, 3, [125])]),
  (101, [(.aload_n 0, 1, []), (.getfield 19, 3, [4, 2, 604, 0]), (.iload_n 2, 1, []), (.aload_n 0, 1, []), (.invokevirtual 157, 3, [111, 0, 1348, 0, 5, 4]), (.lastore, 1, []), (.goto 14, 3, [125])]),
  (114, [(.aload_n 0, 1, []), (.iload_n 1, 1, []), (.aload_n 0, 1, []), (.getfield 164, 3, [4, 12, 618, 0]), (.iload_n 2, 1, []), (.iadd, 1, []), (.invokevirtual 226, 3, [118, 2, 1380, 0, 3, 4])]),
  (125, [(.return_, 1, [])])]
set_option maxRecDepth 100000 in
theorem ok_Machine_variable : fk_okM 117 B_Machine_variable = true := by decide +kernel
abbrev C_Machine_variable : fkC := []
set_option maxRecDepth 100000 in
set_option maxHeartbeats 4000000 in
theorem S_Machine_variable {d : Nat} {a0 : Int32} {a1 : Int32} {σ : fkS} {Q : Option Value → fkS → Prop} 
  (h : ((a0.toInt = 26 →
    (Dj d 111 [.ref 56] σ (fun x2 σ1 =>
    Q none (sW σ1 σ)))) ∧
   (¬ a0.toInt = 26 →
   ((a0.toInt = 27 →
    (Dj d 111 [.ref 56] σ (fun x4 σ3 =>
    (Dj d 111 [.ref 56] (sW σ3 σ) (fun x6 σ5 =>
    (Dj d 111 [.ref 56] (sW σ5 σ) (fun x8 σ7 =>
    ((x4.toInt32 = 0 →
      (Dv d 106 [.ref 56, .long x6] (sW σ7 σ) (fun σ9 =>
      Q none (sW σ9 σ)))) ∧
     (¬ x4.toInt32 = 0 →
      (Dv d 106 [.ref 56, .long x8] (sW σ7 σ) (fun σ10 =>
      Q none (sW σ10 σ)))))))))))) ∧
   (¬ a0.toInt = 27 →
   ((a0.toInt = 35 →
    (vp_in a1 60 ∧
    (Dv d 106 [.ref 56, .long (σ.2.1 57 a1.toNatClampNeg)] σ (fun σ11 =>
    Q none (sW σ11 σ))))) ∧
   (¬ a0.toInt = 35 →
   ((a0.toInt = 36 →
    (Dj d 111 [.ref 56] σ (fun x13 σ12 =>
    (vp_in a1 60 ∧
    Q none (sL (sW σ12 σ) 57 a1.toNatClampNeg x13))))) ∧
   (¬ a0.toInt = 36 →
   (Dv d 118 [.ref 56, .int a0, .int ((σ.1 56 12) + a1)] σ (fun σ14 =>
    Q none (sW σ14 σ)))))))))))) :
  Cl (d + 1) 117 [.ref 56, .int a0, .int a1] σ Q := by
  exact Cl.run B_Machine_variable C_Machine_variable 13 fk_q117 ok_Machine_variable rfl h
def B_Machine_local : fkB := [(0, [(.iload_n 2, 1, []), (.ifCond .lt 11, 3, [12])]),
  (4, [(.iload_n 2, 1, []), (.aload_n 0, 1, []), (.getfield 99, 3, [4, 8, 614, 0]), (.if_icmp .lt 4, 3, [13])]),
  (12, [(.return_, 1, [])]),
  (13, [(.iload_n 1, 1, []), (.bipush 32, 2, []), (.if_icmp .ne 14, 3, [30])]),
  (19, [(.aload_n 0, 1, []), (.aload_n 0, 1, []), (.getfield 37, 3, [4, 7, 613, 0]), (.iload_n 2, 1, []), (.laload, 1, []), (.invokevirtual 126, 3, [106, 1, 1326, 0, 3, 4]), (.return_, 1, [])]),
  (30, [(.aload_n 0, 1, []), (.invokevirtual 157, 3, [111, 0, 1348, 0, 5, 4]), (.lstore_n 3, 1, []), (.aload_n 0, 1, []), (.getfield 37, 3, [4, 7, 613, 0]), (.iload_n 2, 1, []), (.lload_n 3, 1, []), (.lastore, 1, []), (.iload_n 1, 1, []), (.bipush 34, 2, []), (.if_icmp .ne 8, 3, [53])]),
  (48, [(.aload_n 0, 1, []), (.lload_n 3, 1, []), (.invokevirtual 126, 3, [106, 1, 1326, 0, 3, 4])]),
  (53, [(.return_, 1, [])])]
set_option maxRecDepth 100000 in
theorem ok_Machine_local : fk_okM 118 B_Machine_local = true := by decide +kernel
abbrev C_Machine_local : fkC := []
set_option maxRecDepth 100000 in
set_option maxHeartbeats 4000000 in
theorem S_Machine_local {d : Nat} {a0 : Int32} {a1 : Int32} {σ : fkS} {Q : Option Value → fkS → Prop} 
  (h : ((a1 < 0 →
    Q none σ) ∧
   (¬ a1 < 0 →
    ((a1 < (σ.1 56 8) →
      ((¬ a0 = (32 : Int32) →
        (Dj d 111 [.ref 56] σ (fun x2 σ1 =>
        (vp_in a1 24000 ∧
        ((¬ a0 = (34 : Int32) →
          Q none (sL (sW σ1 σ) 60 a1.toNatClampNeg x2)) ∧
         (a0 = (34 : Int32) →
          (Dv d 106 [.ref 56, .long x2] (sL (sW σ1 σ) 60 a1.toNatClampNeg x2) (fun σ3 =>
          Q none (sW σ3 σ))))))))) ∧
       (a0 = (32 : Int32) →
        (vp_in a1 24000 ∧
        (Dv d 106 [.ref 56, .long (σ.2.1 60 a1.toNatClampNeg)] σ (fun σ4 =>
        Q none (sW σ4 σ))))))) ∧
     (¬ a1 < (σ.1 56 8) →
      Q none σ))))) :
  Cl (d + 1) 118 [.ref 56, .int a0, .int a1] σ Q := by
  exact Cl.run B_Machine_local C_Machine_local 11 fk_q118 ok_Machine_local rfl h
def B_Machine_grow : fkB := [(0, [(.aload_n 0, 1, []), (.invokevirtual 157, 3, [111, 0, 1348, 0, 5, 4]), (.ldc2_w 57, 3, [4294967295, 1284]), (.land, 1, []), (.lstore_n 1, 1, []), (.aload_n 0, 1, []), (.getfield 9, 3, [4, 0, 602, 0]), (.getfield 85, 3, [6, 8, 412, 1]), (.iconst 1, 1, []), (.laload, 1, []), (.lconst 0, 1, []), (.lcmp, 1, []), (.ifCond .ge 9, 3, [29])]),
  (23, [(.ldc2_w 229, 3, [2, 1388]), (.goto 18, 3, [44])]),
  (29, [(.aload_n 0, 1, []), (.getfield 9, 3, [4, 0, 602, 0]), (.getfield 85, 3, [6, 8, 412, 1]), (.iconst 1, 1, []), (.laload, 1, []), (.ldc2_w 229, 3, [2, 1388]), (.invokestatic 210, 3, [1003, 0, 1364])]),
  (44, [(.lstore_n 3, 1, []), (.aload_n 0, 1, []), (.getfield 26, 3, [4, 4, 607, 0]), (.i2l, 1, []), (.lload_n 1, 1, []), (.ladd, 1, []), (.lload_n 3, 1, []), (.lcmp, 1, []), (.ifCond .le 11, 3, [65])]),
  (57, [(.aload_n 0, 1, []), (.ldc2_w 97, 3, [18446744073709551615, 1389]), (.invokevirtual 126, 3, [106, 1, 1326, 0, 3, 4]), (.return_, 1, [])]),
  (65, [(.aload_n 0, 1, []), (.aload_n 0, 1, []), (.getfield 26, 3, [4, 4, 607, 0]), (.i2l, 1, []), (.invokevirtual 126, 3, [106, 1, 1326, 0, 3, 4]), (.aload_n 0, 1, []), (.dup, 1, []), (.getfield 26, 3, [4, 4, 607, 0]), (.lload_n 1, 1, []), (.l2i, 1, []), (.iadd, 1, []), (.putfield 26, 3, [4, 4, 607, 0]), (.return_, 1, [])])]
set_option maxRecDepth 100000 in
theorem ok_Machine_grow : fk_okM 119 B_Machine_grow = true := by decide +kernel
abbrev C_Machine_grow : fkC := [(44, [true, true, false, false, false])]
set_option maxRecDepth 100000 in
set_option maxHeartbeats 4000000 in
theorem S_Machine_grow {d : Nat}  {σ : fkS} {Q : Option Value → fkS → Prop} (h56_0 : σ.2.2 56 0 = 4)
  (h : (Dj d 111 [.ref 56] σ (fun x2 σ1 =>
  (¬ (4 : Nat) = 0 ∧
  (vp_in (1 : Int32) 2 ∧
  ((0 ≤ (lg_cmp ((sW σ1 σ).2.1 8 ((1 : Int32).toNatClampNeg)) (0 : Int64)) →
    (¬ (4 : Nat) = 0 ∧
    (vp_in (1 : Int32) 2 ∧
    Wq 119 (d + 1) 44 [some (.ref 56), some (.long (x2 &&& (Int64.ofNat 4294967295))), none, none, none] [.long (if (2 : Int64) < ((sW σ1 σ).2.1 8 ((1 : Int32).toNatClampNeg)) then (2 : Int64) else ((sW σ1 σ).2.1 8 ((1 : Int32).toNatClampNeg)))] (sW σ1 σ) Q))) ∧
   (¬ 0 ≤ (lg_cmp ((sW σ1 σ).2.1 8 ((1 : Int32).toNatClampNeg)) (0 : Int64)) →
    Wq 119 (d + 1) 44 [some (.ref 56), some (.long (x2 &&& (Int64.ofNat 4294967295))), none, none, none] [.long (2 : Int64)] (sW σ1 σ) Q))))))) :
  Cl (d + 1) 119 [.ref 56] σ Q := by
  rw [← sR_eta h56_0] at h ⊢
  exact Cl.run B_Machine_grow C_Machine_grow 9 fk_q119 ok_Machine_grow rfl h
set_option maxRecDepth 100000 in
set_option maxHeartbeats 4000000 in
theorem S_Machine_grow_44 {d : Nat} {v1 : Int64} {s0 : Int64} {σ : fkS} {Q : Option Value → fkS → Prop} 
  (h : (((lg_cmp (((σ.1 56 4).toInt64) + v1) s0) ≤ 0 →
    (Dv d 106 [.ref 56, .long ((σ.1 56 4).toInt64)] σ (fun σ1 =>
    Q none (sI (sW σ1 σ) 56 4 (((sW σ1 σ).1 56 4) + v1.toInt32))))) ∧
   (¬ (lg_cmp (((σ.1 56 4).toInt64) + v1) s0) ≤ 0 →
    (Dv d 106 [.ref 56, .long (Int64.ofNat 18446744073709551615)] σ (fun σ2 =>
    Q none (sW σ2 σ)))))) :
  Wq 119 (d + 1) 44 [some (.ref 56), some (.long v1), none, none, none] [.long s0] σ Q := by
  exact fk_run_sound (B := B_Machine_grow) (C := C_Machine_grow) (n := 9) ok_Machine_grow h
def B_Machine_load : fkB := [(0, [(.iload_n 1, 1, []), (.invokestatic 235, 3, [92, 1, 1394, 1, 4]), (.istore 4, 2, []), (.aload_n 0, 1, []), (.aload_n 0, 1, []), (.invokevirtual 157, 3, [111, 0, 1348, 0, 5, 4]), (.lload_n 2, 1, []), (.iload 4, 2, []), (.invokevirtual 240, 3, [121, 3, 1395, 0, 4, 4]), (.istore 5, 2, []), (.iload 5, 2, []), (.ifCond .ge 4, 3, [25])]),
  (24, [(.return_, 1, [])]),
  (25, [(.lconst 0, 1, []), (.lstore 6, 2, []), (.iload 4, 2, []), (.iconst 1, 1, []), (.isub, 1, []), (.istore 8, 2, [])]),
  (34, [(.iload 8, 2, []), (.ifCond .lt 27, 3, [63])]),
  (39, [(.lload 6, 2, []), (.bipush 8, 2, []), (.lshl, 1, []), (.aload_n 0, 1, []), (.iload 5, 2, []), (.iload 8, 2, []), (.iadd, 1, []), (.invokevirtual 244, 3, [123, 1, 1404, 0, 4, 4]), (.i2l, 1, []), (.lor, 1, []), (.lstore 6, 2, []), (.iinc 8 (-1), 3, []), (.goto (-26), 3, [34])]),
  (63, [(.iload_n 1, 1, []), (.bipush 40, 2, []), (.if_icmp .eq 15, 3, [81])]),
  (69, [(.iload_n 1, 1, []), (.bipush 44, 2, []), (.if_icmp .lt 13, 3, [85])]),
  (75, [(.iload_n 1, 1, []), (.iconst 1, 1, []), (.iand, 1, []), (.ifCond .ne 7, 3, [85])]),
  (81, [(.iconst 1, 1, []), (.goto 4, 3, [86])]),
  (85, [(.iconst 0, 1, [])]),
  (86, [(.istore 8, 2, []), (.bipush 64, 2, []), (.bipush 8, 2, []), (.iload 4, 2, []), (.imul, 1, []), (.isub, 1, []), (.istore 9, 2, []), (.aload_n 0, 1, []), (.iload 8, 2, []), (.ifCond .eq 14, 3, [115])]),
  (104, [(.lload 6, 2, []), (.iload 9, 2, []), (.lshl, 1, []), (.iload 9, 2, []), (.lshr, 1, []), (.goto 5, 3, [117])]),
  (115, [(.lload 6, 2, [])]),
  (117, [(.invokevirtual 126, 3, [106, 1, 1326, 0, 3, 4]), (.return_, 1, [])])]
set_option maxRecDepth 100000 in
theorem ok_Machine_load : fk_okM 120 B_Machine_load = true := by decide +kernel
abbrev C_Machine_load : fkC := [(34, [true, true, false, false, true, true, true, false, true, false]), (86, [true, false, false, false, true, false, true, false, false, false])]
set_option maxRecDepth 100000 in
set_option maxHeartbeats 4000000 in
theorem S_Machine_load {d : Nat} {a0 : Int32} {a1 : Int64} {σ : fkS} {Q : Option Value → fkS → Prop} 
  (h : (Di d 92 [.int a0] σ (fun x2 σ1 =>
  (Dj d 111 [.ref 56] (sW σ1 σ) (fun x4 σ3 =>
  (Di d 121 [.ref 56, .long x4, .long a1, .int x2] (sW σ3 σ) (fun x6 σ5 =>
  ((0 ≤ x6 →
    Wq 120 (d + 1) 34 [some (.ref 56), some (.int a0), none, none, some (.int x2), some (.int x6), some (.long (0 : Int64)), none, some (.int (x2 - (1 : Int32))), none] [] (sW σ5 σ) Q) ∧
   (¬ 0 ≤ x6 →
    Q none (sW σ5 σ)))))))))) :
  Cl (d + 1) 120 [.ref 56, .int a0, .long a1] σ Q := by
  exact Cl.run B_Machine_load C_Machine_load 17 fk_q120 ok_Machine_load rfl h
set_option maxRecDepth 100000 in
set_option maxHeartbeats 4000000 in
theorem S_Machine_load_34 {d : Nat} {v1 : Int32} {v4 : Int32} {v5 : Int32} {v6 : Int64} {v8 : Int32} {σ : fkS} {Q : Option Value → fkS → Prop} 
  (h : ((v8 < 0 →
    ((v1 = (40 : Int32) →
      Wq 120 (d + 1) 86 [some (.ref 56), none, none, none, some (.int v4), none, some (.long v6), none, none, none] [.int (1 : Int32)] σ Q) ∧
     (¬ v1 = (40 : Int32) →
      ((v1 < (44 : Int32) →
        Wq 120 (d + 1) 86 [some (.ref 56), none, none, none, some (.int v4), none, some (.long v6), none, none, none] [.int (0 : Int32)] σ Q) ∧
       (¬ v1 < (44 : Int32) →
        ((¬ (v1 &&& (1 : Int32)) = 0 →
          Wq 120 (d + 1) 86 [some (.ref 56), none, none, none, some (.int v4), none, some (.long v6), none, none, none] [.int (0 : Int32)] σ Q) ∧
         ((v1 &&& (1 : Int32)) = 0 →
          Wq 120 (d + 1) 86 [some (.ref 56), none, none, none, some (.int v4), none, some (.long v6), none, none, none] [.int (1 : Int32)] σ Q))))))) ∧
   (¬ v8 < 0 →
    (Di d 123 [.ref 56, .int (v5 + v8)] σ (fun x2 σ1 =>
    Wq 120 (d + 1) 34 [some (.ref 56), some (.int v1), none, none, some (.int v4), some (.int v5), some (.long ((fk_lshl v6 (8 : Int32)) ||| x2.toInt64)), none, some (.int (v8 + (-1 : Int32))), none] [] (sW σ1 σ) Q))))) :
  Wq 120 (d + 1) 34 [some (.ref 56), some (.int v1), none, none, some (.int v4), some (.int v5), some (.long v6), none, some (.int v8), none] [] σ Q := by
  exact fk_run_sound (B := B_Machine_load) (C := C_Machine_load) (n := 17) ok_Machine_load h
set_option maxRecDepth 100000 in
set_option maxHeartbeats 4000000 in
theorem S_Machine_load_86 {d : Nat} {v4 : Int32} {v6 : Int64} {s0 : Int32} {σ : fkS} {Q : Option Value → fkS → Prop} 
  (h : ((s0 = 0 →
    (Dv d 106 [.ref 56, .long v6] σ (fun σ1 =>
    Q none (sW σ1 σ)))) ∧
   (¬ s0 = 0 →
    (Dv d 106 [.ref 56, .long (fk_lshr (fk_lshl v6 ((64 : Int32) - ((8 : Int32) * v4))) ((64 : Int32) - ((8 : Int32) * v4)))] σ (fun σ2 =>
    Q none (sW σ2 σ)))))) :
  Wq 120 (d + 1) 86 [some (.ref 56), none, none, none, some (.int v4), none, some (.long v6), none, none, none] [.int s0] σ Q := by
  exact fk_run_sound (B := B_Machine_load) (C := C_Machine_load) (n := 17) ok_Machine_load h
def B_Machine_address : fkB := [(0, [(.lload_n 1, 1, []), (.ldc2_w 57, 3, [4294967295, 1284]), (.land, 1, []), (.lload_n 3, 1, []), (.ladd, 1, []), (.lstore 6, 2, []), (.lload 6, 2, []), (.iload 5, 2, []), (.i2l, 1, []), (.ladd, 1, []), (.aload_n 0, 1, []), (.invokevirtual 231, 3, [122, 0, 1399, 0, 4, 4]), (.i2l, 1, []), (.lcmp, 1, []), (.ifCond .le 10, 3, [31])]),
  (24, [(.aload_n 0, 1, []), (.iconst 4, 1, []), (.putfield 108, 3, [4, 15, 622, 0]), (.iconst (-1), 1, []), (.ireturn, 1, [])]),
  (31, [(.lload 6, 2, []), (.l2i, 1, []), (.ireturn, 1, [])])]
set_option maxRecDepth 100000 in
theorem ok_Machine_address : fk_okM 121 B_Machine_address = true := by decide +kernel
abbrev C_Machine_address : fkC := []
set_option maxRecDepth 100000 in
set_option maxHeartbeats 4000000 in
theorem S_Machine_address {d : Nat} {a0 : Int64} {a1 : Int64} {a2 : Int32} {σ : fkS} {Q : Option Value → fkS → Prop} 
  (h : (Di d 122 [.ref 56] σ (fun x2 σ1 =>
  (((lg_cmp (((a0 &&& (Int64.ofNat 4294967295)) + a1) + a2.toInt64) x2.toInt64) ≤ 0 →
    Q (some (.int (((a0 &&& (Int64.ofNat 4294967295)) + a1).toInt32))) (sW σ1 σ)) ∧
   (¬ (lg_cmp (((a0 &&& (Int64.ofNat 4294967295)) + a1) + a2.toInt64) x2.toInt64) ≤ 0 →
    Q (some (.int (-1 : Int32))) (sI (sW σ1 σ) 56 15 (4 : Int32))))))) :
  Cl (d + 1) 121 [.ref 56, .long a0, .long a1, .int a2] σ Q := by
  exact Cl.run B_Machine_address C_Machine_address 6 fk_q121 ok_Machine_address rfl h
def B_Machine_bytes : fkB := [(0, [(.aload_n 0, 1, []), (.getfield 26, 3, [4, 4, 607, 0]), (.ldc 94, 2, [65536, 1403]), (.imul, 1, []), (.ireturn, 1, [])])]
set_option maxRecDepth 100000 in
theorem ok_Machine_bytes : fk_okM 122 B_Machine_bytes = true := by decide +kernel
abbrev C_Machine_bytes : fkC := []
set_option maxRecDepth 100000 in
set_option maxHeartbeats 4000000 in
theorem S_Machine_bytes {d : Nat}  {σ : fkS} {Q : Option Value → fkS → Prop} 
  (h : Q (some (.int ((σ.1 56 4) * (65536 : Int32)))) σ) :
  Cl d 122 [.ref 56] σ Q := by
  exact Cl.run B_Machine_bytes C_Machine_bytes 4 fk_q122 ok_Machine_bytes rfl h
def B_Machine_byteAt : fkB := [(0, [(.aload_n 0, 1, []), (.getfield 23, 3, [4, 3, 606, 0]), (.iload_n 1, 1, []), (.iconst 3, 1, []), (.ishr, 1, []), (.laload, 1, []), (.iload_n 1, 1, []), (.bipush 7, 2, []), (.iand, 1, []), (.iconst 3, 1, []), (.ishl, 1, []), (.lushr, 1, []), (.l2i, 1, []), (.sipush 255, 3, []), (.iand, 1, []), (.ireturn, 1, [])])]
set_option maxRecDepth 100000 in
theorem ok_Machine_byteAt : fk_okM 123 B_Machine_byteAt = true := by decide +kernel
abbrev C_Machine_byteAt : fkC := []
set_option maxRecDepth 100000 in
set_option maxHeartbeats 4000000 in
theorem S_Machine_byteAt {d : Nat} {a0 : Int32} {σ : fkS} {Q : Option Value → fkS → Prop} 
  (h : (vp_in (a0 >>> ((3 : Int32) &&& 31)) 16384 ∧
  Q (some (.int (((fk_lushr (σ.2.1 58 ((a0 >>> ((3 : Int32) &&& 31)).toNatClampNeg)) ((a0 &&& (7 : Int32)) <<< ((3 : Int32) &&& 31))).toInt32) &&& (255 : Int32)))) σ)) :
  Cl d 123 [.ref 56, .int a0] σ Q := by
  exact Cl.run B_Machine_byteAt C_Machine_byteAt 4 fk_q123 ok_Machine_byteAt rfl h
def B_Machine_store : fkB := [(0, [(.aload_n 0, 1, []), (.invokevirtual 157, 3, [111, 0, 1348, 0, 5, 4]), (.lstore 4, 2, []), (.iload_n 1, 1, []), (.invokestatic 235, 3, [92, 1, 1394, 1, 4]), (.istore 6, 2, []), (.aload_n 0, 1, []), (.aload_n 0, 1, []), (.invokevirtual 157, 3, [111, 0, 1348, 0, 5, 4]), (.lload_n 2, 1, []), (.iload 6, 2, []), (.invokevirtual 240, 3, [121, 3, 1395, 0, 4, 4]), (.istore 7, 2, []), (.iconst 0, 1, []), (.istore 8, 2, [])]),
  (28, [(.iload 8, 2, []), (.iload 6, 2, []), (.if_icmp .ge 36, 3, [68])]),
  (35, [(.iload 7, 2, []), (.ifCond .lt 31, 3, [68])]),
  (40, [(.aload_n 0, 1, []), (.iload 7, 2, []), (.iload 8, 2, []), (.iadd, 1, []), (.lload 4, 2, []), (.bipush 8, 2, []), (.iload 8, 2, []), (.imul, 1, []), (.lushr, 1, []), (.l2i, 1, []), (.sipush 255, 3, []), (.iand, 1, []), (.invokevirtual 247, 3, [125, 2, 1412, 0, 3, 4]), (.iinc 8 1, 3, []), (.goto (-37), 3, [28])]),
  (68, [(.return_, 1, [])])]
set_option maxRecDepth 100000 in
theorem ok_Machine_store : fk_okM 124 B_Machine_store = true := by decide +kernel
abbrev C_Machine_store : fkC := [(28, [true, false, false, false, true, false, true, true, true])]
set_option maxRecDepth 100000 in
set_option maxHeartbeats 4000000 in
theorem S_Machine_store {d : Nat} {a0 : Int32} {a1 : Int64} {σ : fkS} {Q : Option Value → fkS → Prop} 
  (h : (Dj d 111 [.ref 56] σ (fun x2 σ1 =>
  (Di d 92 [.int a0] (sW σ1 σ) (fun x4 σ3 =>
  (Dj d 111 [.ref 56] (sW σ3 σ) (fun x6 σ5 =>
  (Di d 121 [.ref 56, .long x6, .long a1, .int x4] (sW σ5 σ) (fun x8 σ7 =>
  Wq 124 (d + 1) 28 [some (.ref 56), none, none, none, some (.long x2), none, some (.int x4), some (.int x8), some (.int (0 : Int32))] [] (sW σ7 σ) Q))))))))) :
  Cl (d + 1) 124 [.ref 56, .int a0, .long a1] σ Q := by
  exact Cl.run B_Machine_store C_Machine_store 8 fk_q124 ok_Machine_store rfl h
set_option maxRecDepth 100000 in
set_option maxHeartbeats 4000000 in
theorem S_Machine_store_28 {d : Nat} {v4 : Int64} {v6 : Int32} {v7 : Int32} {v8 : Int32} {σ : fkS} {Q : Option Value → fkS → Prop} 
  (h : ((v6 ≤ v8 →
    Q none σ) ∧
   (¬ v6 ≤ v8 →
    ((v7 < 0 →
      Q none σ) ∧
     (¬ v7 < 0 →
      (Dv d 125 [.ref 56, .int (v7 + v8), .int (((fk_lushr v4 ((8 : Int32) * v8)).toInt32) &&& (255 : Int32))] σ (fun σ1 =>
      Wq 124 (d + 1) 28 [some (.ref 56), none, none, none, some (.long v4), none, some (.int v6), some (.int v7), some (.int (v8 + (1 : Int32)))] [] (sW σ1 σ) Q))))))) :
  Wq 124 (d + 1) 28 [some (.ref 56), none, none, none, some (.long v4), none, some (.int v6), some (.int v7), some (.int v8)] [] σ Q := by
  exact fk_run_sound (B := B_Machine_store) (C := C_Machine_store) (n := 8) ok_Machine_store h
def B_Machine_setByte : fkB := [(0, [(.iload_n 1, 1, []), (.bipush 7, 2, []), (.iand, 1, []), (.iconst 3, 1, []), (.ishl, 1, []), (.istore_n 3, 1, []), (.aload_n 0, 1, []), (.getfield 23, 3, [4, 3, 606, 0]), (.iload_n 1, 1, []), (.iconst 3, 1, []), (.ishr, 1, []), (.aload_n 0, 1, []), (.getfield 23, 3, [4, 3, 606, 0]), (.iload_n 1, 1, []), (.iconst 3, 1, []), (.ishr, 1, []), (.laload, 1, []), (.ldc2_w 95, 3, [255, 1416]), (.iload_n 3, 1, []), (.lshl, 1, []), (.ldc2_w 97, 3, [18446744073709551615, 1389]), (.lxor, 1, []), (.land, 1, []), (.iload_n 2, 1, []), (.sipush 255, 3, []), (.iand, 1, []), (.i2l, 1, []), (.iload_n 3, 1, []), (.lshl, 1, []), (.lor, 1, []), (.lastore, 1, []), (.return_, 1, [])])]
set_option maxRecDepth 100000 in
theorem ok_Machine_setByte : fk_okM 125 B_Machine_setByte = true := by decide +kernel
abbrev C_Machine_setByte : fkC := []
set_option maxRecDepth 100000 in
set_option maxHeartbeats 4000000 in
theorem S_Machine_setByte {d : Nat} {a0 : Int32} {a1 : Int32} {σ : fkS} {Q : Option Value → fkS → Prop} 
  (h : (vp_in (a0 >>> ((3 : Int32) &&& 31)) 16384 ∧
  (vp_in (a0 >>> ((3 : Int32) &&& 31)) 16384 ∧
  Q none (sL σ 58 ((a0 >>> ((3 : Int32) &&& 31)).toNatClampNeg) (((σ.2.1 58 ((a0 >>> ((3 : Int32) &&& 31)).toNatClampNeg)) &&& ((fk_lshl (255 : Int64) ((a0 &&& (7 : Int32)) <<< ((3 : Int32) &&& 31))) ^^^ (Int64.ofNat 18446744073709551615))) ||| (fk_lshl ((a1 &&& (255 : Int32)).toInt64) ((a0 &&& (7 : Int32)) <<< ((3 : Int32) &&& 31)))))))) :
  Cl d 125 [.ref 56, .int a0, .int a1] σ Q := by
  exact Cl.run B_Machine_setByte C_Machine_setByte 4 fk_q125 ok_Machine_setByte rfl h
def B_Machine_number : fkB := [(0, [(.iload_n 1, 1, []), (.sipush 167, 3, []), (.if_icmp .ne 16, 3, [20])]),
  (7, [(.aload_n 0, 1, []), (.aload_n 0, 1, []), (.invokevirtual 157, 3, [111, 0, 1348, 0, 5, 4]), (.l2i, 1, []), (.i2l, 1, []), (.invokevirtual 126, 3, [106, 1, 1326, 0, 3, 4]), (.goto 279, 3, [296])]),
  (20, [(.iload_n 1, 1, []), (.sipush 172, 3, []), (.if_icmp .ne 14, 3, [38])]),
  (27, [(.aload_n 0, 1, []), (.aload_n 0, 1, []), (.invokevirtual 157, 3, [111, 0, 1348, 0, 5, 4]), (.invokevirtual 126, 3, [106, 1, 1326, 0, 3, 4]), (.goto 261, 3, [296])]),
  (38, [(.iload_n 1, 1, []), (.sipush 173, 3, []), (.if_icmp .ne 18, 3, [60])]),
  (45, [(.aload_n 0, 1, []), (.aload_n 0, 1, []), (.invokevirtual 157, 3, [111, 0, 1348, 0, 5, 4]), (.ldc2_w 57, 3, [4294967295, 1284]), (.land, 1, []), (.invokevirtual 126, 3, [106, 1, 1326, 0, 3, 4]), (.goto 239, 3, [296])]),
  (60, [(.iload_n 1, 1, []), (.bipush 69, 2, []), (.if_icmp .eq 9, 3, [72])]),
  (66, [(.iload_n 1, 1, []), (.bipush 80, 2, []), (.if_icmp .ne 24, 3, [93])]),
  (72, [(.aload_n 0, 1, []), (.aload_n 0, 1, []), (.invokevirtual 157, 3, [111, 0, 1348, 0, 5, 4]), (.lconst 0, 1, []), (.lcmp, 1, []), (.ifCond .ne 7, 3, [86])]),
  (82, [(.lconst 1, 1, []), (.goto 4, 3, [87])]),
  (86, [(.lconst 0, 1, [])]),
  (87, [(.invokevirtual 126, 3, [106, 1, 1326, 0, 3, 4]), (.goto 206, 3, [296])]),
  (93, [(.iload_n 1, 1, []), (.bipush 90, 2, []), (.if_icmp .gt 48, 3, [144])]),
  (99, [(.aload_n 0, 1, []), (.invokevirtual 157, 3, [111, 0, 1348, 0, 5, 4]), (.lstore_n 2, 1, []), (.aload_n 0, 1, []), (.iload_n 1, 1, []), (.bipush 79, 2, []), (.if_icmp .gt 10, 3, [118])]),
  (111, [(.iload_n 1, 1, []), (.bipush 69, 2, []), (.isub, 1, []), (.goto 7, 3, [122])]),
  (118, [(.iload_n 1, 1, []), (.bipush 80, 2, []), (.isub, 1, [])]),
  (122, [(.aload_n 0, 1, []), (.invokevirtual 157, 3, [111, 0, 1348, 0, 5, 4]), (.lload_n 2, 1, []), (.invokestatic 250, 3, [127, 3, 1421, 0, 4]), (.ifCond .eq 7, 3, [137])]),
  (133, [(.lconst 1, 1, []), (.goto 4, 3, [138])]),
  (137, [(.lconst 0, 1, [])]),
  (138, [(.invokevirtual 126, 3, [106, 1, 1326, 0, 3, 4]), (.goto 155, 3, [296])]),
  (144, [(.iload_n 1, 1, []), (.bipush 105, 2, []), (.if_icmp .gt 23, 3, [170])]),
  (150, [(.aload_n 0, 1, []), (.iload_n 1, 1, []), (.bipush 103, 2, []), (.isub, 1, []), (.aload_n 0, 1, []), (.invokevirtual 157, 3, [111, 0, 1348, 0, 5, 4]), (.l2i, 1, []), (.invokestatic 254, 3, [129, 2, 1428, 0, 4]), (.i2l, 1, []), (.invokevirtual 126, 3, [106, 1, 1326, 0, 3, 4]), (.goto 129, 3, [296])]),
  (170, [(.iload_n 1, 1, []), (.bipush 120, 2, []), (.if_icmp .gt 54, 3, [227])]),
  (176, [(.aload_n 0, 1, []), (.invokevirtual 157, 3, [111, 0, 1348, 0, 5, 4]), (.l2i, 1, []), (.istore_n 2, 1, []), (.aload_n 0, 1, []), (.iload_n 1, 1, []), (.bipush 112, 2, []), (.if_icmp .gt 21, 3, [207])]),
  (189, [(.aload_n 0, 1, []), (.iload_n 1, 1, []), (.bipush 103, 2, []), (.isub, 1, []), (.aload_n 0, 1, []), (.invokevirtual 157, 3, [111, 0, 1348, 0, 5, 4]), (.l2i, 1, []), (.iload_n 2, 1, []), (.invokevirtual 257, 3, [131, 3, 1437, 0, 4, 4]), (.i2l, 1, []), (.goto 17, 3, [221])]),
  (207, [(.iload_n 1, 1, []), (.bipush 103, 2, []), (.isub, 1, []), (.aload_n 0, 1, []), (.invokevirtual 157, 3, [111, 0, 1348, 0, 5, 4]), (.l2i, 1, []), (.iload_n 2, 1, []), (.invokestatic 261, 3, [132, 3, 1442, 0, 4]), (.i2l, 1, [])]),
  (221, [(.invokevirtual 126, 3, [106, 1, 1326, 0, 3, 4]), (.goto 72, 3, [296])]),
  (227, [(.iload_n 1, 1, []), (.bipush 123, 2, []), (.if_icmp .gt 22, 3, [252])]),
  (233, [(.aload_n 0, 1, []), (.iload_n 1, 1, []), (.bipush 121, 2, []), (.isub, 1, []), (.aload_n 0, 1, []), (.invokevirtual 157, 3, [111, 0, 1348, 0, 5, 4]), (.invokestatic 264, 3, [133, 2, 1445, 0, 4]), (.i2l, 1, []), (.invokevirtual 126, 3, [106, 1, 1326, 0, 3, 4]), (.goto 47, 3, [296])]),
  (252, [(.aload_n 0, 1, []), (.invokevirtual 157, 3, [111, 0, 1348, 0, 5, 4]), (.lstore_n 2, 1, []), (.aload_n 0, 1, []), (.iload_n 1, 1, []), (.sipush 130, 3, []), (.if_icmp .gt 19, 3, [281])]),
  (265, [(.aload_n 0, 1, []), (.iload_n 1, 1, []), (.bipush 121, 2, []), (.isub, 1, []), (.aload_n 0, 1, []), (.invokevirtual 157, 3, [111, 0, 1348, 0, 5, 4]), (.lload_n 2, 1, []), (.invokevirtual 268, 3, [135, 3, 1454, 0, 5, 4]), (.goto 15, 3, [293])]),
  (281, [(.iload_n 1, 1, []), (.bipush 121, 2, []), (.isub, 1, []), (.aload_n 0, 1, []), (.invokevirtual 157, 3, [111, 0, 1348, 0, 5, 4]), (.lload_n 2, 1, []), (.invokestatic 272, 3, [137, 3, 1461, 0, 5])]),
  (293, [(.invokevirtual 126, 3, [106, 1, 1326, 0, 3, 4])]),
  (296, [(.return_, 1, [])])]
set_option maxRecDepth 100000 in
theorem ok_Machine_number : fk_okM 126 B_Machine_number = true := by decide +kernel
abbrev C_Machine_number : fkC := []
set_option maxRecDepth 100000 in
set_option maxHeartbeats 4000000 in
theorem S_Machine_number {d : Nat} {a0 : Int32} {σ : fkS} {Q : Option Value → fkS → Prop} 
  (h : ((¬ a0 = (167 : Int32) →
    ((¬ a0 = (172 : Int32) →
      ((¬ a0 = (173 : Int32) →
        ((a0 = (69 : Int32) →
          (Dj d 111 [.ref 56] σ (fun x2 σ1 =>
          ((¬ (lg_cmp x2 (0 : Int64)) = 0 →
            (Dv d 106 [.ref 56, .long (0 : Int64)] (sW σ1 σ) (fun σ3 =>
            Q none (sW σ3 σ)))) ∧
           ((lg_cmp x2 (0 : Int64)) = 0 →
            (Dv d 106 [.ref 56, .long (1 : Int64)] (sW σ1 σ) (fun σ4 =>
            Q none (sW σ4 σ)))))))) ∧
         (¬ a0 = (69 : Int32) →
          ((¬ a0 = (80 : Int32) →
            (((90 : Int32) < a0 →
              (((105 : Int32) < a0 →
                (((120 : Int32) < a0 →
                  (((123 : Int32) < a0 →
                    (Dj d 111 [.ref 56] σ (fun x6 σ5 =>
                    (((130 : Int32) < a0 →
                      (Dj d 111 [.ref 56] (sW σ5 σ) (fun x8 σ7 =>
                      (Dj d 137 [.int (a0 - (121 : Int32)), .long x8, .long x6] (sW σ7 σ) (fun x10 σ9 =>
                      (Dv d 106 [.ref 56, .long x10] (sW σ9 σ) (fun σ11 =>
                      Q none (sW σ11 σ)))))))) ∧
                     (¬ (130 : Int32) < a0 →
                      (Dj d 111 [.ref 56] (sW σ5 σ) (fun x13 σ12 =>
                      (Dj d 135 [.ref 56, .int (a0 - (121 : Int32)), .long x13, .long x6] (sW σ12 σ) (fun x15 σ14 =>
                      (Dv d 106 [.ref 56, .long x15] (sW σ14 σ) (fun σ16 =>
                      Q none (sW σ16 σ)))))))))))) ∧
                   (¬ (123 : Int32) < a0 →
                    (Dj d 111 [.ref 56] σ (fun x18 σ17 =>
                    (Di d 133 [.int (a0 - (121 : Int32)), .long x18] (sW σ17 σ) (fun x20 σ19 =>
                    (Dv d 106 [.ref 56, .long x20.toInt64] (sW σ19 σ) (fun σ21 =>
                    Q none (sW σ21 σ)))))))))) ∧
                 (¬ (120 : Int32) < a0 →
                  (Dj d 111 [.ref 56] σ (fun x23 σ22 =>
                  (((112 : Int32) < a0 →
                    (Dj d 111 [.ref 56] (sW σ22 σ) (fun x25 σ24 =>
                    (Di d 132 [.int (a0 - (103 : Int32)), .int x25.toInt32, .int x23.toInt32] (sW σ24 σ) (fun x27 σ26 =>
                    (Dv d 106 [.ref 56, .long x27.toInt64] (sW σ26 σ) (fun σ28 =>
                    Q none (sW σ28 σ)))))))) ∧
                   (¬ (112 : Int32) < a0 →
                    (Dj d 111 [.ref 56] (sW σ22 σ) (fun x30 σ29 =>
                    (Di d 131 [.ref 56, .int (a0 - (103 : Int32)), .int x30.toInt32, .int x23.toInt32] (sW σ29 σ) (fun x32 σ31 =>
                    (Dv d 106 [.ref 56, .long x32.toInt64] (sW σ31 σ) (fun σ33 =>
                    Q none (sW σ33 σ)))))))))))))) ∧
               (¬ (105 : Int32) < a0 →
                (Dj d 111 [.ref 56] σ (fun x35 σ34 =>
                (Di d 129 [.int (a0 - (103 : Int32)), .int x35.toInt32] (sW σ34 σ) (fun x37 σ36 =>
                (Dv d 106 [.ref 56, .long x37.toInt64] (sW σ36 σ) (fun σ38 =>
                Q none (sW σ38 σ)))))))))) ∧
             (¬ (90 : Int32) < a0 →
              (Dj d 111 [.ref 56] σ (fun x40 σ39 =>
              (((79 : Int32) < a0 →
                (Dj d 111 [.ref 56] (sW σ39 σ) (fun x42 σ41 =>
                (Di d 127 [.int (a0 - (80 : Int32)), .long x42, .long x40] (sW σ41 σ) (fun x44 σ43 =>
                ((x44 = 0 →
                  (Dv d 106 [.ref 56, .long (0 : Int64)] (sW σ43 σ) (fun σ45 =>
                  Q none (sW σ45 σ)))) ∧
                 (¬ x44 = 0 →
                  (Dv d 106 [.ref 56, .long (1 : Int64)] (sW σ43 σ) (fun σ46 =>
                  Q none (sW σ46 σ)))))))))) ∧
               (¬ (79 : Int32) < a0 →
                (Dj d 111 [.ref 56] (sW σ39 σ) (fun x48 σ47 =>
                (Di d 127 [.int (a0 - (69 : Int32)), .long x48, .long x40] (sW σ47 σ) (fun x50 σ49 =>
                ((x50 = 0 →
                  (Dv d 106 [.ref 56, .long (0 : Int64)] (sW σ49 σ) (fun σ51 =>
                  Q none (sW σ51 σ)))) ∧
                 (¬ x50 = 0 →
                  (Dv d 106 [.ref 56, .long (1 : Int64)] (sW σ49 σ) (fun σ52 =>
                  Q none (sW σ52 σ)))))))))))))))) ∧
           (a0 = (80 : Int32) →
            (Dj d 111 [.ref 56] σ (fun x54 σ53 =>
            ((¬ (lg_cmp x54 (0 : Int64)) = 0 →
              (Dv d 106 [.ref 56, .long (0 : Int64)] (sW σ53 σ) (fun σ55 =>
              Q none (sW σ55 σ)))) ∧
             ((lg_cmp x54 (0 : Int64)) = 0 →
              (Dv d 106 [.ref 56, .long (1 : Int64)] (sW σ53 σ) (fun σ56 =>
              Q none (sW σ56 σ)))))))))))) ∧
       (a0 = (173 : Int32) →
        (Dj d 111 [.ref 56] σ (fun x58 σ57 =>
        (Dv d 106 [.ref 56, .long (x58 &&& (Int64.ofNat 4294967295))] (sW σ57 σ) (fun σ59 =>
        Q none (sW σ59 σ)))))))) ∧
     (a0 = (172 : Int32) →
      (Dj d 111 [.ref 56] σ (fun x61 σ60 =>
      (Dv d 106 [.ref 56, .long x61] (sW σ60 σ) (fun σ62 =>
      Q none (sW σ62 σ)))))))) ∧
   (a0 = (167 : Int32) →
    (Dj d 111 [.ref 56] σ (fun x64 σ63 =>
    (Dv d 106 [.ref 56, .long x64.toInt32.toInt64] (sW σ63 σ) (fun σ65 =>
    Q none (sW σ65 σ)))))))) :
  Cl (d + 1) 126 [.ref 56, .int a0] σ Q := by
  exact Cl.run B_Machine_number C_Machine_number 37 fk_q126 ok_Machine_number rfl h
def B_Machine_compare : fkB := [(0, [(.iload_n 0, 1, []), (.tableswitch 149 1 9 #[51, 63, 75, 87, 93, 105, 111, 123, 137], 51, [150, 52, 64, 76, 88, 94, 106, 112, 124, 138])]),
  (52, [(.lload_n 1, 1, []), (.lload_n 3, 1, []), (.lcmp, 1, []), (.ifCond .ne 7, 3, [62])]),
  (58, [(.iconst 1, 1, []), (.goto 4, 3, [63])]),
  (62, [(.iconst 0, 1, [])]),
  (63, [(.ireturn, 1, [])]),
  (64, [(.lload_n 1, 1, []), (.lload_n 3, 1, []), (.lcmp, 1, []), (.ifCond .eq 7, 3, [74])]),
  (70, [(.iconst 1, 1, []), (.goto 4, 3, [75])]),
  (74, [(.iconst 0, 1, [])]),
  (75, [(.ireturn, 1, [])]),
  (76, [(.lload_n 1, 1, []), (.lload_n 3, 1, []), (.lcmp, 1, []), (.ifCond .ge 7, 3, [86])]),
  (82, [(.iconst 1, 1, []), (.goto 4, 3, [87])]),
  (86, [(.iconst 0, 1, [])]),
  (87, [(.ireturn, 1, [])]),
  (88, [(.lload_n 1, 1, []), (.lload_n 3, 1, []), (.invokestatic 277, 3, [128, 2, 1424, 0, 4]), (.ireturn, 1, [])]),
  (94, [(.lload_n 1, 1, []), (.lload_n 3, 1, []), (.lcmp, 1, []), (.ifCond .le 7, 3, [104])]),
  (100, [(.iconst 1, 1, []), (.goto 4, 3, [105])]),
  (104, [(.iconst 0, 1, [])]),
  (105, [(.ireturn, 1, [])]),
  (106, [(.lload_n 3, 1, []), (.lload_n 1, 1, []), (.invokestatic 277, 3, [128, 2, 1424, 0, 4]), (.ireturn, 1, [])]),
  (112, [(.lload_n 1, 1, []), (.lload_n 3, 1, []), (.lcmp, 1, []), (.ifCond .gt 7, 3, [122])]),
  (118, [(.iconst 1, 1, []), (.goto 4, 3, [123])]),
  (122, [(.iconst 0, 1, [])]),
  (123, [(.ireturn, 1, [])]),
  (124, [(.lload_n 3, 1, []), (.lload_n 1, 1, []), (.invokestatic 277, 3, [128, 2, 1424, 0, 4]), (.ifCond .ne 7, 3, [136])]),
  (132, [(.iconst 1, 1, []), (.goto 4, 3, [137])]),
  (136, [(.iconst 0, 1, [])]),
  (137, [(.ireturn, 1, [])]),
  (138, [(.lload_n 1, 1, []), (.lload_n 3, 1, []), (.lcmp, 1, []), (.ifCond .lt 7, 3, [148])]),
  (144, [(.iconst 1, 1, []), (.goto 4, 3, [149])]),
  (148, [(.iconst 0, 1, [])]),
  (149, [(.ireturn, 1, [])]),
  (150, [(.lload_n 1, 1, []), (.lload_n 3, 1, []), (.invokestatic 277, 3, [128, 2, 1424, 0, 4]), (.ifCond .ne 7, 3, [162])]),
  (158, [(.iconst 1, 1, []), (.goto 4, 3, [163])]),
  (162, [(.iconst 0, 1, [])]),
  (163, [(.ireturn, 1, [])])]
set_option maxRecDepth 100000 in
theorem ok_Machine_compare : fk_okM 127 B_Machine_compare = true := by decide +kernel
abbrev C_Machine_compare : fkC := []
set_option maxRecDepth 100000 in
set_option maxHeartbeats 4000000 in
theorem S_Machine_compare {d : Nat} {a0 : Int32} {a1 : Int64} {a2 : Int64} {σ : fkS} {Q : Option Value → fkS → Prop} 
  (h : (((a0.toInt < 1 ∨ 9 < a0.toInt) →
    (Di d 128 [.long a1, .long a2] σ (fun x2 σ1 =>
    ((¬ x2 = 0 →
      Q (some (.int (0 : Int32))) (sW σ1 σ)) ∧
     (x2 = 0 →
      Q (some (.int (1 : Int32))) (sW σ1 σ)))))) ∧
   (a0.toInt = 1 →
    ((¬ (lg_cmp a1 a2) = 0 →
      Q (some (.int (0 : Int32))) σ) ∧
     ((lg_cmp a1 a2) = 0 →
      Q (some (.int (1 : Int32))) σ))) ∧
   (a0.toInt = 2 →
    (((lg_cmp a1 a2) = 0 →
      Q (some (.int (0 : Int32))) σ) ∧
     (¬ (lg_cmp a1 a2) = 0 →
      Q (some (.int (1 : Int32))) σ))) ∧
   (a0.toInt = 3 →
    ((0 ≤ (lg_cmp a1 a2) →
      Q (some (.int (0 : Int32))) σ) ∧
     (¬ 0 ≤ (lg_cmp a1 a2) →
      Q (some (.int (1 : Int32))) σ))) ∧
   (a0.toInt = 4 →
    (Di d 128 [.long a1, .long a2] σ (fun x4 σ3 =>
    fk_bz x4 (Q (some (.int x4)) (sW σ3 σ))))) ∧
   (a0.toInt = 5 →
    (((lg_cmp a1 a2) ≤ 0 →
      Q (some (.int (0 : Int32))) σ) ∧
     (¬ (lg_cmp a1 a2) ≤ 0 →
      Q (some (.int (1 : Int32))) σ))) ∧
   (a0.toInt = 6 →
    (Di d 128 [.long a2, .long a1] σ (fun x6 σ5 =>
    fk_bz x6 (Q (some (.int x6)) (sW σ5 σ))))) ∧
   (a0.toInt = 7 →
    ((0 < (lg_cmp a1 a2) →
      Q (some (.int (0 : Int32))) σ) ∧
     (¬ 0 < (lg_cmp a1 a2) →
      Q (some (.int (1 : Int32))) σ))) ∧
   (a0.toInt = 8 →
    (Di d 128 [.long a2, .long a1] σ (fun x8 σ7 =>
    ((¬ x8 = 0 →
      Q (some (.int (0 : Int32))) (sW σ7 σ)) ∧
     (x8 = 0 →
      Q (some (.int (1 : Int32))) (sW σ7 σ)))))) ∧
   (a0.toInt = 9 →
    (((lg_cmp a1 a2) < 0 →
      Q (some (.int (0 : Int32))) σ) ∧
     (¬ (lg_cmp a1 a2) < 0 →
      Q (some (.int (1 : Int32))) σ))) ∧ True)) :
  Cl (d + 1) 127 [.int a0, .long a1, .long a2] σ Q := by
  exact Cl.run B_Machine_compare C_Machine_compare 38 fk_q127 ok_Machine_compare rfl h
def B_Machine_below : fkB := [(0, [(.lload_n 0, 1, []), (.ldc2_w 275, 3, [9223372036854775808, 1427]), (.ladd, 1, []), (.lload_n 2, 1, []), (.ldc2_w 275, 3, [9223372036854775808, 1427]), (.ladd, 1, []), (.lcmp, 1, []), (.ifCond .ge 7, 3, [18])]),
  (14, [(.iconst 1, 1, []), (.goto 4, 3, [19])]),
  (18, [(.iconst 0, 1, [])]),
  (19, [(.ireturn, 1, [])])]
set_option maxRecDepth 100000 in
theorem ok_Machine_below : fk_okM 128 B_Machine_below = true := by decide +kernel
abbrev C_Machine_below : fkC := []
set_option maxRecDepth 100000 in
set_option maxHeartbeats 4000000 in
theorem S_Machine_below {d : Nat} {a0 : Int64} {a1 : Int64} {σ : fkS} {Q : Option Value → fkS → Prop} 
  (h : ((0 ≤ (lg_cmp (a0 + (Int64.ofNat 9223372036854775808)) (a1 + (Int64.ofNat 9223372036854775808))) →
    Q (some (.int (0 : Int32))) σ) ∧
   (¬ 0 ≤ (lg_cmp (a0 + (Int64.ofNat 9223372036854775808)) (a1 + (Int64.ofNat 9223372036854775808))) →
    Q (some (.int (1 : Int32))) σ))) :
  Cl d 128 [.long a0, .long a1] σ Q := by
  exact Cl.run B_Machine_below C_Machine_below 7 fk_q128 ok_Machine_below rfl h
def B_Machine_bits32 : fkB := [(0, [(.iload_n 0, 1, []), (.iconst 2, 1, []), (.if_icmp .ne 8, 3, [10])]),
  (5, [(.iload_n 1, 1, []), (.invokestatic 281, 3, [130, 1, 1431, 0, 4]), (.ireturn, 1, [])]),
  (10, [(.iload_n 0, 1, []), (.iconst 1, 1, []), (.if_icmp .ne 13, 3, [25])]),
  (15, [(.iload_n 1, 1, []), (.iload_n 1, 1, []), (.ineg, 1, []), (.iand, 1, []), (.iconst 1, 1, []), (.isub, 1, []), (.invokestatic 281, 3, [130, 1, 1431, 0, 4]), (.ireturn, 1, [])]),
  (25, [(.iload_n 1, 1, []), (.iload_n 1, 1, []), (.iconst 1, 1, []), (.iushr, 1, []), (.ior, 1, []), (.istore_n 2, 1, []), (.iload_n 2, 1, []), (.iload_n 2, 1, []), (.iconst 2, 1, []), (.iushr, 1, []), (.ior, 1, []), (.istore_n 2, 1, []), (.iload_n 2, 1, []), (.iload_n 2, 1, []), (.iconst 4, 1, []), (.iushr, 1, []), (.ior, 1, []), (.istore_n 2, 1, []), (.iload_n 2, 1, []), (.iload_n 2, 1, []), (.bipush 8, 2, []), (.iushr, 1, []), (.ior, 1, []), (.istore_n 2, 1, []), (.iload_n 2, 1, []), (.iload_n 2, 1, []), (.bipush 16, 2, []), (.iushr, 1, []), (.ior, 1, []), (.istore_n 2, 1, []), (.bipush 32, 2, []), (.iload_n 2, 1, []), (.invokestatic 281, 3, [130, 1, 1431, 0, 4]), (.isub, 1, []), (.ireturn, 1, [])])]
set_option maxRecDepth 100000 in
theorem ok_Machine_bits32 : fk_okM 129 B_Machine_bits32 = true := by decide +kernel
abbrev C_Machine_bits32 : fkC := []
set_option maxRecDepth 100000 in
set_option maxHeartbeats 4000000 in
theorem S_Machine_bits32 {d : Nat} {a0 : Int32} {a1 : Int32} {σ : fkS} {Q : Option Value → fkS → Prop} 
  (h : ((¬ a0 = (2 : Int32) →
    ((¬ a0 = (1 : Int32) →
      (Di d 130 [.int (((((a1 ||| (fk_ushr a1 (1 : Int32))) ||| (fk_ushr (a1 ||| (fk_ushr a1 (1 : Int32))) (2 : Int32))) ||| (fk_ushr ((a1 ||| (fk_ushr a1 (1 : Int32))) ||| (fk_ushr (a1 ||| (fk_ushr a1 (1 : Int32))) (2 : Int32))) (4 : Int32))) ||| (fk_ushr (((a1 ||| (fk_ushr a1 (1 : Int32))) ||| (fk_ushr (a1 ||| (fk_ushr a1 (1 : Int32))) (2 : Int32))) ||| (fk_ushr ((a1 ||| (fk_ushr a1 (1 : Int32))) ||| (fk_ushr (a1 ||| (fk_ushr a1 (1 : Int32))) (2 : Int32))) (4 : Int32))) (8 : Int32))) ||| (fk_ushr ((((a1 ||| (fk_ushr a1 (1 : Int32))) ||| (fk_ushr (a1 ||| (fk_ushr a1 (1 : Int32))) (2 : Int32))) ||| (fk_ushr ((a1 ||| (fk_ushr a1 (1 : Int32))) ||| (fk_ushr (a1 ||| (fk_ushr a1 (1 : Int32))) (2 : Int32))) (4 : Int32))) ||| (fk_ushr (((a1 ||| (fk_ushr a1 (1 : Int32))) ||| (fk_ushr (a1 ||| (fk_ushr a1 (1 : Int32))) (2 : Int32))) ||| (fk_ushr ((a1 ||| (fk_ushr a1 (1 : Int32))) ||| (fk_ushr (a1 ||| (fk_ushr a1 (1 : Int32))) (2 : Int32))) (4 : Int32))) (8 : Int32))) (16 : Int32)))] σ (fun x2 σ1 =>
      Q (some (.int ((32 : Int32) - x2))) (sW σ1 σ)))) ∧
     (a0 = (1 : Int32) →
      (Di d 130 [.int ((a1 &&& (-a1)) - (1 : Int32))] σ (fun x4 σ3 =>
      Q (some (.int x4)) (sW σ3 σ)))))) ∧
   (a0 = (2 : Int32) →
    (Di d 130 [.int a1] σ (fun x6 σ5 =>
    Q (some (.int x6)) (sW σ5 σ)))))) :
  Cl (d + 1) 129 [.int a0, .int a1] σ Q := by
  exact Cl.run B_Machine_bits32 C_Machine_bits32 8 fk_q129 ok_Machine_bits32 rfl h
def B_jInteger_bitCount : fkB := [(0, [(.iload_n 0, 1, []), (.iload_n 0, 1, []), (.iconst 1, 1, []), (.iushr, 1, []), (.ldc_w 265, 3, [1431655765, 1434]), (.iand, 1, []), (.isub, 1, []), (.istore_n 0, 1, []), (.iload_n 0, 1, []), (.ldc_w 266, 3, [858993459, 1435]), (.iand, 1, []), (.iload_n 0, 1, []), (.iconst 2, 1, []), (.iushr, 1, []), (.ldc_w 266, 3, [858993459, 1435]), (.iand, 1, []), (.iadd, 1, []), (.istore_n 0, 1, []), (.iload_n 0, 1, []), (.iload_n 0, 1, []), (.iconst 4, 1, []), (.iushr, 1, []), (.iadd, 1, []), (.ldc_w 267, 3, [252645135, 1436]), (.iand, 1, []), (.istore_n 0, 1, []), (.iload_n 0, 1, []), (.iload_n 0, 1, []), (.bipush 8, 2, []), (.iushr, 1, []), (.iadd, 1, []), (.istore_n 0, 1, []), (.iload_n 0, 1, []), (.iload_n 0, 1, []), (.bipush 16, 2, []), (.iushr, 1, []), (.iadd, 1, []), (.istore_n 0, 1, []), (.iload_n 0, 1, []), (.bipush 63, 2, []), (.iand, 1, []), (.ireturn, 1, [])])]
set_option maxRecDepth 100000 in
theorem ok_jInteger_bitCount : fk_okM 130 B_jInteger_bitCount = true := by decide +kernel
abbrev C_jInteger_bitCount : fkC := []
set_option maxRecDepth 100000 in
set_option maxHeartbeats 4000000 in
theorem S_jInteger_bitCount {d : Nat} {a0 : Int32} {σ : fkS} {Q : Option Value → fkS → Prop} 
  (h : Q (some (.int ((((((((a0 - ((fk_ushr a0 (1 : Int32)) &&& (1431655765 : Int32))) &&& (858993459 : Int32)) + ((fk_ushr (a0 - ((fk_ushr a0 (1 : Int32)) &&& (1431655765 : Int32))) (2 : Int32)) &&& (858993459 : Int32))) + (fk_ushr (((a0 - ((fk_ushr a0 (1 : Int32)) &&& (1431655765 : Int32))) &&& (858993459 : Int32)) + ((fk_ushr (a0 - ((fk_ushr a0 (1 : Int32)) &&& (1431655765 : Int32))) (2 : Int32)) &&& (858993459 : Int32))) (4 : Int32))) &&& (252645135 : Int32)) + (fk_ushr (((((a0 - ((fk_ushr a0 (1 : Int32)) &&& (1431655765 : Int32))) &&& (858993459 : Int32)) + ((fk_ushr (a0 - ((fk_ushr a0 (1 : Int32)) &&& (1431655765 : Int32))) (2 : Int32)) &&& (858993459 : Int32))) + (fk_ushr (((a0 - ((fk_ushr a0 (1 : Int32)) &&& (1431655765 : Int32))) &&& (858993459 : Int32)) + ((fk_ushr (a0 - ((fk_ushr a0 (1 : Int32)) &&& (1431655765 : Int32))) (2 : Int32)) &&& (858993459 : Int32))) (4 : Int32))) &&& (252645135 : Int32)) (8 : Int32))) + (fk_ushr ((((((a0 - ((fk_ushr a0 (1 : Int32)) &&& (1431655765 : Int32))) &&& (858993459 : Int32)) + ((fk_ushr (a0 - ((fk_ushr a0 (1 : Int32)) &&& (1431655765 : Int32))) (2 : Int32)) &&& (858993459 : Int32))) + (fk_ushr (((a0 - ((fk_ushr a0 (1 : Int32)) &&& (1431655765 : Int32))) &&& (858993459 : Int32)) + ((fk_ushr (a0 - ((fk_ushr a0 (1 : Int32)) &&& (1431655765 : Int32))) (2 : Int32)) &&& (858993459 : Int32))) (4 : Int32))) &&& (252645135 : Int32)) + (fk_ushr (((((a0 - ((fk_ushr a0 (1 : Int32)) &&& (1431655765 : Int32))) &&& (858993459 : Int32)) + ((fk_ushr (a0 - ((fk_ushr a0 (1 : Int32)) &&& (1431655765 : Int32))) (2 : Int32)) &&& (858993459 : Int32))) + (fk_ushr (((a0 - ((fk_ushr a0 (1 : Int32)) &&& (1431655765 : Int32))) &&& (858993459 : Int32)) + ((fk_ushr (a0 - ((fk_ushr a0 (1 : Int32)) &&& (1431655765 : Int32))) (2 : Int32)) &&& (858993459 : Int32))) (4 : Int32))) &&& (252645135 : Int32)) (8 : Int32))) (16 : Int32))) &&& (63 : Int32)))) σ) :
  Cl d 130 [.int a0] σ Q := by
  exact Cl.run B_jInteger_bitCount C_jInteger_bitCount 4 fk_q130 ok_jInteger_bitCount rfl h
def B_Machine_whole32 : fkB := [(0, [(.iload_n 1, 1, []), (.tableswitch 39 3 5 #[27, 31, 35], 27, [40, 28, 32, 36])]),
  (28, [(.iload_n 2, 1, []), (.iload_n 3, 1, []), (.iadd, 1, []), (.ireturn, 1, [])]),
  (32, [(.iload_n 2, 1, []), (.iload_n 3, 1, []), (.isub, 1, []), (.ireturn, 1, [])]),
  (36, [(.iload_n 2, 1, []), (.iload_n 3, 1, []), (.imul, 1, []), (.ireturn, 1, [])]),
  (40, [(.iload_n 3, 1, []), (.ifCond .ne 10, 3, [51])]),
  (44, [(.aload_n 0, 1, []), (.iconst 2, 1, []), (.putfield 108, 3, [4, 15, 622, 0]), (.iconst 0, 1, []), (.ireturn, 1, [])]),
  (51, [(.iload_n 1, 1, []), (.bipush 6, 2, []), (.if_icmp .ne 22, 3, [76])]),
  (57, [(.iload_n 2, 1, []), (.ldc_w 291, 3, [2147483648, 1441]), (.if_icmp .ne 15, 3, [76])]),
  (64, [(.iload_n 3, 1, []), (.iconst (-1), 1, []), (.if_icmp .ne 10, 3, [76])]),
  (69, [(.aload_n 0, 1, []), (.iconst 3, 1, []), (.putfield 108, 3, [4, 15, 622, 0]), (.iconst 0, 1, []), (.ireturn, 1, [])]),
  (76, [(.iload_n 2, 1, []), (.i2l, 1, []), (.ldc2_w 57, 3, [4294967295, 1284]), (.land, 1, []), (.lstore 4, 2, []), (.iload_n 3, 1, []), (.i2l, 1, []), (.ldc2_w 57, 3, [4294967295, 1284]), (.land, 1, []), (.lstore 6, 2, []), (.iload_n 1, 1, []), (.tableswitch 51 6 8 #[27, 31, 38], 27, [144, 120, 124, 131])]),
  (120, [(.iload_n 2, 1, []), (.iload_n 3, 1, []), (.idiv, 1, []), (.ireturn, 1, [])]),
  (124, [(.lload 4, 2, []), (.lload 6, 2, []), (.ldiv, 1, []), (.l2i, 1, []), (.ireturn, 1, [])]),
  (131, [(.iload_n 3, 1, []), (.iconst (-1), 1, []), (.if_icmp .ne 7, 3, [140])]),
  (136, [(.iconst 0, 1, []), (.goto 6, 3, [143])]),
  (140, [(.iload_n 2, 1, []), (.iload_n 3, 1, []), (.irem, 1, [])]),
  (143, [(.ireturn, 1, [])]),
  (144, [(.lload 4, 2, []), (.lload 6, 2, []), (.lrem, 1, []), (.l2i, 1, []), (.ireturn, 1, [])])]
set_option maxRecDepth 100000 in
theorem ok_Machine_whole32 : fk_okM 131 B_Machine_whole32 = true := by decide +kernel
abbrev C_Machine_whole32 : fkC := [(76, [false, true, true, true, false, false, false, false])]
set_option maxRecDepth 100000 in
set_option maxHeartbeats 4000000 in
theorem S_Machine_whole32 {d : Nat} {a0 : Int32} {a1 : Int32} {a2 : Int32} {σ : fkS} {Q : Option Value → fkS → Prop} 
  (h : (((a0.toInt < 3 ∨ 5 < a0.toInt) →
    ((¬ a2 = 0 →
      ((¬ a0 = (6 : Int32) →
        Wq 131 d 76 [none, some (.int a0), some (.int a1), some (.int a2), none, none, none, none] [] σ Q) ∧
       (a0 = (6 : Int32) →
        ((¬ a1 = (Int32.ofNat 2147483648) →
          Wq 131 d 76 [none, some (.int a0), some (.int a1), some (.int a2), none, none, none, none] [] σ Q) ∧
         (a1 = (Int32.ofNat 2147483648) →
          ((¬ a2 = (-1 : Int32) →
            Wq 131 d 76 [none, some (.int a0), some (.int a1), some (.int a2), none, none, none, none] [] σ Q) ∧
           (a2 = (-1 : Int32) →
            Q (some (.int (0 : Int32))) (sI σ 56 15 (3 : Int32))))))))) ∧
     (a2 = 0 →
      Q (some (.int (0 : Int32))) (sI σ 56 15 (2 : Int32))))) ∧
   (a0.toInt = 3 →
    Q (some (.int (a1 + a2))) σ) ∧
   (a0.toInt = 4 →
    Q (some (.int (a1 - a2))) σ) ∧
   (a0.toInt = 5 →
    Q (some (.int (a1 * a2))) σ) ∧ True)) :
  Cl d 131 [.ref 56, .int a0, .int a1, .int a2] σ Q := by
  exact Cl.run B_Machine_whole32 C_Machine_whole32 21 fk_q131 ok_Machine_whole32 rfl h
set_option maxRecDepth 100000 in
set_option maxHeartbeats 4000000 in
theorem S_Machine_whole32_76 {d : Nat} {v1 : Int32} {v2 : Int32} {v3 : Int32} {σ : fkS} {Q : Option Value → fkS → Prop} 
  (h : (((v1.toInt < 6 ∨ 8 < v1.toInt) →
    (¬ (v3.toInt64 &&& (Int64.ofNat 4294967295)) = 0 ∧
    Q (some (.int (((v2.toInt64 &&& (Int64.ofNat 4294967295)) - (v2.toInt64 &&& (Int64.ofNat 4294967295)) / (v3.toInt64 &&& (Int64.ofNat 4294967295)) * (v3.toInt64 &&& (Int64.ofNat 4294967295))).toInt32))) σ)) ∧
   (v1.toInt = 6 →
    (¬ v3 = 0 ∧
    Q (some (.int (v2 / v3))) σ)) ∧
   (v1.toInt = 7 →
    (¬ (v3.toInt64 &&& (Int64.ofNat 4294967295)) = 0 ∧
    Q (some (.int (((v2.toInt64 &&& (Int64.ofNat 4294967295)) / (v3.toInt64 &&& (Int64.ofNat 4294967295))).toInt32))) σ)) ∧
   (v1.toInt = 8 →
    ((¬ v3 = (-1 : Int32) →
      (¬ v3 = 0 ∧
      Q (some (.int (v2 - v2 / v3 * v3))) σ)) ∧
     (v3 = (-1 : Int32) →
      Q (some (.int (0 : Int32))) σ))) ∧ True)) :
  Wq 131 d 76 [none, some (.int v1), some (.int v2), some (.int v3), none, none, none, none] [] σ Q := by
  exact fk_run_sound (B := B_Machine_whole32) (C := C_Machine_whole32) (n := 21) ok_Machine_whole32 h
def B_Machine_shifted32 : fkB := [(0, [(.iload_n 0, 1, []), (.tableswitch 76 10 16 #[43, 47, 51, 55, 59, 63, 67], 43, [77, 44, 48, 52, 56, 60, 64, 68])]),
  (44, [(.iload_n 1, 1, []), (.iload_n 2, 1, []), (.iand, 1, []), (.ireturn, 1, [])]),
  (48, [(.iload_n 1, 1, []), (.iload_n 2, 1, []), (.ior, 1, []), (.ireturn, 1, [])]),
  (52, [(.iload_n 1, 1, []), (.iload_n 2, 1, []), (.ixor, 1, []), (.ireturn, 1, [])]),
  (56, [(.iload_n 1, 1, []), (.iload_n 2, 1, []), (.ishl, 1, []), (.ireturn, 1, [])]),
  (60, [(.iload_n 1, 1, []), (.iload_n 2, 1, []), (.ishr, 1, []), (.ireturn, 1, [])]),
  (64, [(.iload_n 1, 1, []), (.iload_n 2, 1, []), (.iushr, 1, []), (.ireturn, 1, [])]),
  (68, [(.iload_n 1, 1, []), (.iload_n 2, 1, []), (.ishl, 1, []), (.iload_n 1, 1, []), (.iload_n 2, 1, []), (.ineg, 1, []), (.iushr, 1, []), (.ior, 1, []), (.ireturn, 1, [])]),
  (77, [(.iload_n 1, 1, []), (.iload_n 2, 1, []), (.iushr, 1, []), (.iload_n 1, 1, []), (.iload_n 2, 1, []), (.ineg, 1, []), (.ishl, 1, []), (.ior, 1, []), (.ireturn, 1, [])])]
set_option maxRecDepth 100000 in
theorem ok_Machine_shifted32 : fk_okM 132 B_Machine_shifted32 = true := by decide +kernel
abbrev C_Machine_shifted32 : fkC := []
set_option maxRecDepth 100000 in
set_option maxHeartbeats 4000000 in
theorem S_Machine_shifted32 {d : Nat} {a0 : Int32} {a1 : Int32} {a2 : Int32} {σ : fkS} {Q : Option Value → fkS → Prop} 
  (h : (((a0.toInt < 10 ∨ 16 < a0.toInt) →
    Q (some (.int ((fk_ushr a1 a2) ||| (a1 <<< ((-a2) &&& 31))))) σ) ∧
   (a0.toInt = 10 →
    Q (some (.int (a1 &&& a2))) σ) ∧
   (a0.toInt = 11 →
    Q (some (.int (a1 ||| a2))) σ) ∧
   (a0.toInt = 12 →
    Q (some (.int (a1 ^^^ a2))) σ) ∧
   (a0.toInt = 13 →
    Q (some (.int (a1 <<< (a2 &&& 31)))) σ) ∧
   (a0.toInt = 14 →
    Q (some (.int (a1 >>> (a2 &&& 31)))) σ) ∧
   (a0.toInt = 15 →
    Q (some (.int (fk_ushr a1 a2))) σ) ∧
   (a0.toInt = 16 →
    Q (some (.int ((a1 <<< (a2 &&& 31)) ||| (fk_ushr a1 (-a2))))) σ) ∧ True)) :
  Cl d 132 [.int a0, .int a1, .int a2] σ Q := by
  exact Cl.run B_Machine_shifted32 C_Machine_shifted32 12 fk_q132 ok_Machine_shifted32 rfl h
def B_Machine_bits64 : fkB := [(0, [(.iload_n 0, 1, []), (.iconst 2, 1, []), (.if_icmp .ne 8, 3, [10])]),
  (5, [(.lload_n 1, 1, []), (.invokestatic 286, 3, [134, 1, 1448, 0, 4]), (.ireturn, 1, [])]),
  (10, [(.iload_n 0, 1, []), (.iconst 1, 1, []), (.if_icmp .ne 13, 3, [25])]),
  (15, [(.lload_n 1, 1, []), (.lload_n 1, 1, []), (.lneg, 1, []), (.land, 1, []), (.lconst 1, 1, []), (.lsub, 1, []), (.invokestatic 286, 3, [134, 1, 1448, 0, 4]), (.ireturn, 1, [])]),
  (25, [(.lload_n 1, 1, []), (.lload_n 1, 1, []), (.iconst 1, 1, []), (.lushr, 1, []), (.lor, 1, []), (.lstore_n 3, 1, []), (.lload_n 3, 1, []), (.lload_n 3, 1, []), (.iconst 2, 1, []), (.lushr, 1, []), (.lor, 1, []), (.lstore_n 3, 1, []), (.lload_n 3, 1, []), (.lload_n 3, 1, []), (.iconst 4, 1, []), (.lushr, 1, []), (.lor, 1, []), (.lstore_n 3, 1, []), (.lload_n 3, 1, []), (.lload_n 3, 1, []), (.bipush 8, 2, []), (.lushr, 1, []), (.lor, 1, []), (.lstore_n 3, 1, []), (.lload_n 3, 1, []), (.lload_n 3, 1, []), (.bipush 16, 2, []), (.lushr, 1, []), (.lor, 1, []), (.lstore_n 3, 1, []), (.lload_n 3, 1, []), (.lload_n 3, 1, []), (.bipush 32, 2, []), (.lushr, 1, []), (.lor, 1, []), (.lstore_n 3, 1, []), (.bipush 64, 2, []), (.lload_n 3, 1, []), (.invokestatic 286, 3, [134, 1, 1448, 0, 4]), (.isub, 1, []), (.ireturn, 1, [])])]
set_option maxRecDepth 100000 in
theorem ok_Machine_bits64 : fk_okM 133 B_Machine_bits64 = true := by decide +kernel
abbrev C_Machine_bits64 : fkC := []
set_option maxRecDepth 100000 in
set_option maxHeartbeats 4000000 in
theorem S_Machine_bits64 {d : Nat} {a0 : Int32} {a1 : Int64} {σ : fkS} {Q : Option Value → fkS → Prop} 
  (h : ((¬ a0 = (2 : Int32) →
    ((¬ a0 = (1 : Int32) →
      (Di d 134 [.long ((((((a1 ||| (fk_lushr a1 (1 : Int32))) ||| (fk_lushr (a1 ||| (fk_lushr a1 (1 : Int32))) (2 : Int32))) ||| (fk_lushr ((a1 ||| (fk_lushr a1 (1 : Int32))) ||| (fk_lushr (a1 ||| (fk_lushr a1 (1 : Int32))) (2 : Int32))) (4 : Int32))) ||| (fk_lushr (((a1 ||| (fk_lushr a1 (1 : Int32))) ||| (fk_lushr (a1 ||| (fk_lushr a1 (1 : Int32))) (2 : Int32))) ||| (fk_lushr ((a1 ||| (fk_lushr a1 (1 : Int32))) ||| (fk_lushr (a1 ||| (fk_lushr a1 (1 : Int32))) (2 : Int32))) (4 : Int32))) (8 : Int32))) ||| (fk_lushr ((((a1 ||| (fk_lushr a1 (1 : Int32))) ||| (fk_lushr (a1 ||| (fk_lushr a1 (1 : Int32))) (2 : Int32))) ||| (fk_lushr ((a1 ||| (fk_lushr a1 (1 : Int32))) ||| (fk_lushr (a1 ||| (fk_lushr a1 (1 : Int32))) (2 : Int32))) (4 : Int32))) ||| (fk_lushr (((a1 ||| (fk_lushr a1 (1 : Int32))) ||| (fk_lushr (a1 ||| (fk_lushr a1 (1 : Int32))) (2 : Int32))) ||| (fk_lushr ((a1 ||| (fk_lushr a1 (1 : Int32))) ||| (fk_lushr (a1 ||| (fk_lushr a1 (1 : Int32))) (2 : Int32))) (4 : Int32))) (8 : Int32))) (16 : Int32))) ||| (fk_lushr (((((a1 ||| (fk_lushr a1 (1 : Int32))) ||| (fk_lushr (a1 ||| (fk_lushr a1 (1 : Int32))) (2 : Int32))) ||| (fk_lushr ((a1 ||| (fk_lushr a1 (1 : Int32))) ||| (fk_lushr (a1 ||| (fk_lushr a1 (1 : Int32))) (2 : Int32))) (4 : Int32))) ||| (fk_lushr (((a1 ||| (fk_lushr a1 (1 : Int32))) ||| (fk_lushr (a1 ||| (fk_lushr a1 (1 : Int32))) (2 : Int32))) ||| (fk_lushr ((a1 ||| (fk_lushr a1 (1 : Int32))) ||| (fk_lushr (a1 ||| (fk_lushr a1 (1 : Int32))) (2 : Int32))) (4 : Int32))) (8 : Int32))) ||| (fk_lushr ((((a1 ||| (fk_lushr a1 (1 : Int32))) ||| (fk_lushr (a1 ||| (fk_lushr a1 (1 : Int32))) (2 : Int32))) ||| (fk_lushr ((a1 ||| (fk_lushr a1 (1 : Int32))) ||| (fk_lushr (a1 ||| (fk_lushr a1 (1 : Int32))) (2 : Int32))) (4 : Int32))) ||| (fk_lushr (((a1 ||| (fk_lushr a1 (1 : Int32))) ||| (fk_lushr (a1 ||| (fk_lushr a1 (1 : Int32))) (2 : Int32))) ||| (fk_lushr ((a1 ||| (fk_lushr a1 (1 : Int32))) ||| (fk_lushr (a1 ||| (fk_lushr a1 (1 : Int32))) (2 : Int32))) (4 : Int32))) (8 : Int32))) (16 : Int32))) (32 : Int32)))] σ (fun x2 σ1 =>
      Q (some (.int ((64 : Int32) - x2))) (sW σ1 σ)))) ∧
     (a0 = (1 : Int32) →
      (Di d 134 [.long ((a1 &&& (-a1)) - (1 : Int64))] σ (fun x4 σ3 =>
      Q (some (.int x4)) (sW σ3 σ)))))) ∧
   (a0 = (2 : Int32) →
    (Di d 134 [.long a1] σ (fun x6 σ5 =>
    Q (some (.int x6)) (sW σ5 σ)))))) :
  Cl (d + 1) 133 [.int a0, .long a1] σ Q := by
  exact Cl.run B_Machine_bits64 C_Machine_bits64 8 fk_q133 ok_Machine_bits64 rfl h
def B_jLong_bitCount : fkB := [(0, [(.lload_n 0, 1, []), (.lload_n 0, 1, []), (.iconst 1, 1, []), (.lushr, 1, []), (.ldc2_w 314, 3, [6148914691236517205, 1451]), (.land, 1, []), (.lsub, 1, []), (.lstore_n 0, 1, []), (.lload_n 0, 1, []), (.ldc2_w 316, 3, [3689348814741910323, 1452]), (.land, 1, []), (.lload_n 0, 1, []), (.iconst 2, 1, []), (.lushr, 1, []), (.ldc2_w 316, 3, [3689348814741910323, 1452]), (.land, 1, []), (.ladd, 1, []), (.lstore_n 0, 1, []), (.lload_n 0, 1, []), (.lload_n 0, 1, []), (.iconst 4, 1, []), (.lushr, 1, []), (.ladd, 1, []), (.ldc2_w 318, 3, [1085102592571150095, 1453]), (.land, 1, []), (.lstore_n 0, 1, []), (.lload_n 0, 1, []), (.lload_n 0, 1, []), (.bipush 8, 2, []), (.lushr, 1, []), (.ladd, 1, []), (.lstore_n 0, 1, []), (.lload_n 0, 1, []), (.lload_n 0, 1, []), (.bipush 16, 2, []), (.lushr, 1, []), (.ladd, 1, []), (.lstore_n 0, 1, []), (.lload_n 0, 1, []), (.lload_n 0, 1, []), (.bipush 32, 2, []), (.lushr, 1, []), (.ladd, 1, []), (.lstore_n 0, 1, []), (.lload_n 0, 1, []), (.l2i, 1, []), (.bipush 127, 2, []), (.iand, 1, []), (.ireturn, 1, [])])]
set_option maxRecDepth 100000 in
theorem ok_jLong_bitCount : fk_okM 134 B_jLong_bitCount = true := by decide +kernel
abbrev C_jLong_bitCount : fkC := []
set_option maxRecDepth 100000 in
set_option maxHeartbeats 4000000 in
theorem S_jLong_bitCount {d : Nat} {a0 : Int64} {σ : fkS} {Q : Option Value → fkS → Prop} 
  (h : Q (some (.int ((((((((((a0 - ((fk_lushr a0 (1 : Int32)) &&& (Int64.ofNat 6148914691236517205))) &&& (Int64.ofNat 3689348814741910323)) + ((fk_lushr (a0 - ((fk_lushr a0 (1 : Int32)) &&& (Int64.ofNat 6148914691236517205))) (2 : Int32)) &&& (Int64.ofNat 3689348814741910323))) + (fk_lushr (((a0 - ((fk_lushr a0 (1 : Int32)) &&& (Int64.ofNat 6148914691236517205))) &&& (Int64.ofNat 3689348814741910323)) + ((fk_lushr (a0 - ((fk_lushr a0 (1 : Int32)) &&& (Int64.ofNat 6148914691236517205))) (2 : Int32)) &&& (Int64.ofNat 3689348814741910323))) (4 : Int32))) &&& (Int64.ofNat 1085102592571150095)) + (fk_lushr (((((a0 - ((fk_lushr a0 (1 : Int32)) &&& (Int64.ofNat 6148914691236517205))) &&& (Int64.ofNat 3689348814741910323)) + ((fk_lushr (a0 - ((fk_lushr a0 (1 : Int32)) &&& (Int64.ofNat 6148914691236517205))) (2 : Int32)) &&& (Int64.ofNat 3689348814741910323))) + (fk_lushr (((a0 - ((fk_lushr a0 (1 : Int32)) &&& (Int64.ofNat 6148914691236517205))) &&& (Int64.ofNat 3689348814741910323)) + ((fk_lushr (a0 - ((fk_lushr a0 (1 : Int32)) &&& (Int64.ofNat 6148914691236517205))) (2 : Int32)) &&& (Int64.ofNat 3689348814741910323))) (4 : Int32))) &&& (Int64.ofNat 1085102592571150095)) (8 : Int32))) + (fk_lushr ((((((a0 - ((fk_lushr a0 (1 : Int32)) &&& (Int64.ofNat 6148914691236517205))) &&& (Int64.ofNat 3689348814741910323)) + ((fk_lushr (a0 - ((fk_lushr a0 (1 : Int32)) &&& (Int64.ofNat 6148914691236517205))) (2 : Int32)) &&& (Int64.ofNat 3689348814741910323))) + (fk_lushr (((a0 - ((fk_lushr a0 (1 : Int32)) &&& (Int64.ofNat 6148914691236517205))) &&& (Int64.ofNat 3689348814741910323)) + ((fk_lushr (a0 - ((fk_lushr a0 (1 : Int32)) &&& (Int64.ofNat 6148914691236517205))) (2 : Int32)) &&& (Int64.ofNat 3689348814741910323))) (4 : Int32))) &&& (Int64.ofNat 1085102592571150095)) + (fk_lushr (((((a0 - ((fk_lushr a0 (1 : Int32)) &&& (Int64.ofNat 6148914691236517205))) &&& (Int64.ofNat 3689348814741910323)) + ((fk_lushr (a0 - ((fk_lushr a0 (1 : Int32)) &&& (Int64.ofNat 6148914691236517205))) (2 : Int32)) &&& (Int64.ofNat 3689348814741910323))) + (fk_lushr (((a0 - ((fk_lushr a0 (1 : Int32)) &&& (Int64.ofNat 6148914691236517205))) &&& (Int64.ofNat 3689348814741910323)) + ((fk_lushr (a0 - ((fk_lushr a0 (1 : Int32)) &&& (Int64.ofNat 6148914691236517205))) (2 : Int32)) &&& (Int64.ofNat 3689348814741910323))) (4 : Int32))) &&& (Int64.ofNat 1085102592571150095)) (8 : Int32))) (16 : Int32))) + (fk_lushr (((((((a0 - ((fk_lushr a0 (1 : Int32)) &&& (Int64.ofNat 6148914691236517205))) &&& (Int64.ofNat 3689348814741910323)) + ((fk_lushr (a0 - ((fk_lushr a0 (1 : Int32)) &&& (Int64.ofNat 6148914691236517205))) (2 : Int32)) &&& (Int64.ofNat 3689348814741910323))) + (fk_lushr (((a0 - ((fk_lushr a0 (1 : Int32)) &&& (Int64.ofNat 6148914691236517205))) &&& (Int64.ofNat 3689348814741910323)) + ((fk_lushr (a0 - ((fk_lushr a0 (1 : Int32)) &&& (Int64.ofNat 6148914691236517205))) (2 : Int32)) &&& (Int64.ofNat 3689348814741910323))) (4 : Int32))) &&& (Int64.ofNat 1085102592571150095)) + (fk_lushr (((((a0 - ((fk_lushr a0 (1 : Int32)) &&& (Int64.ofNat 6148914691236517205))) &&& (Int64.ofNat 3689348814741910323)) + ((fk_lushr (a0 - ((fk_lushr a0 (1 : Int32)) &&& (Int64.ofNat 6148914691236517205))) (2 : Int32)) &&& (Int64.ofNat 3689348814741910323))) + (fk_lushr (((a0 - ((fk_lushr a0 (1 : Int32)) &&& (Int64.ofNat 6148914691236517205))) &&& (Int64.ofNat 3689348814741910323)) + ((fk_lushr (a0 - ((fk_lushr a0 (1 : Int32)) &&& (Int64.ofNat 6148914691236517205))) (2 : Int32)) &&& (Int64.ofNat 3689348814741910323))) (4 : Int32))) &&& (Int64.ofNat 1085102592571150095)) (8 : Int32))) + (fk_lushr ((((((a0 - ((fk_lushr a0 (1 : Int32)) &&& (Int64.ofNat 6148914691236517205))) &&& (Int64.ofNat 3689348814741910323)) + ((fk_lushr (a0 - ((fk_lushr a0 (1 : Int32)) &&& (Int64.ofNat 6148914691236517205))) (2 : Int32)) &&& (Int64.ofNat 3689348814741910323))) + (fk_lushr (((a0 - ((fk_lushr a0 (1 : Int32)) &&& (Int64.ofNat 6148914691236517205))) &&& (Int64.ofNat 3689348814741910323)) + ((fk_lushr (a0 - ((fk_lushr a0 (1 : Int32)) &&& (Int64.ofNat 6148914691236517205))) (2 : Int32)) &&& (Int64.ofNat 3689348814741910323))) (4 : Int32))) &&& (Int64.ofNat 1085102592571150095)) + (fk_lushr (((((a0 - ((fk_lushr a0 (1 : Int32)) &&& (Int64.ofNat 6148914691236517205))) &&& (Int64.ofNat 3689348814741910323)) + ((fk_lushr (a0 - ((fk_lushr a0 (1 : Int32)) &&& (Int64.ofNat 6148914691236517205))) (2 : Int32)) &&& (Int64.ofNat 3689348814741910323))) + (fk_lushr (((a0 - ((fk_lushr a0 (1 : Int32)) &&& (Int64.ofNat 6148914691236517205))) &&& (Int64.ofNat 3689348814741910323)) + ((fk_lushr (a0 - ((fk_lushr a0 (1 : Int32)) &&& (Int64.ofNat 6148914691236517205))) (2 : Int32)) &&& (Int64.ofNat 3689348814741910323))) (4 : Int32))) &&& (Int64.ofNat 1085102592571150095)) (8 : Int32))) (16 : Int32))) (32 : Int32))).toInt32) &&& (127 : Int32)))) σ) :
  Cl d 134 [.long a0] σ Q := by
  exact Cl.run B_jLong_bitCount C_jLong_bitCount 4 fk_q134 ok_jLong_bitCount rfl h
def B_Machine_whole64 : fkB := [(0, [(.iload_n 1, 1, []), (.tableswitch 42 3 5 #[27, 32, 37], 27, [43, 28, 33, 38])]),
  (28, [(.lload_n 2, 1, []), (.lload 4, 2, []), (.ladd, 1, []), (.lreturn, 1, [])]),
  (33, [(.lload_n 2, 1, []), (.lload 4, 2, []), (.lsub, 1, []), (.lreturn, 1, [])]),
  (38, [(.lload_n 2, 1, []), (.lload 4, 2, []), (.lmul, 1, []), (.lreturn, 1, [])]),
  (43, [(.lload 4, 2, []), (.lconst 0, 1, []), (.lcmp, 1, []), (.ifCond .ne 10, 3, [57])]),
  (50, [(.aload_n 0, 1, []), (.iconst 2, 1, []), (.putfield 108, 3, [4, 15, 622, 0]), (.lconst 0, 1, []), (.lreturn, 1, [])]),
  (57, [(.iload_n 1, 1, []), (.bipush 6, 2, []), (.if_icmp .ne 27, 3, [87])]),
  (63, [(.lload_n 2, 1, []), (.ldc2_w 275, 3, [9223372036854775808, 1427]), (.lcmp, 1, []), (.ifCond .ne 19, 3, [87])]),
  (71, [(.lload 4, 2, []), (.ldc2_w 97, 3, [18446744073709551615, 1389]), (.lcmp, 1, []), (.ifCond .ne 10, 3, [87])]),
  (80, [(.aload_n 0, 1, []), (.iconst 3, 1, []), (.putfield 108, 3, [4, 15, 622, 0]), (.lconst 0, 1, []), (.lreturn, 1, [])]),
  (87, [(.iload_n 1, 1, []), (.tableswitch 58 6 8 #[28, 33, 40], 28, [146, 116, 121, 128])]),
  (116, [(.lload_n 2, 1, []), (.lload 4, 2, []), (.ldiv, 1, []), (.lreturn, 1, [])]),
  (121, [(.lload_n 2, 1, []), (.lload 4, 2, []), (.invokestatic 292, 3, [136, 2, 1458, 0, 5]), (.lreturn, 1, [])]),
  (128, [(.lload 4, 2, []), (.ldc2_w 97, 3, [18446744073709551615, 1389]), (.lcmp, 1, []), (.ifCond .ne 7, 3, [141])]),
  (137, [(.lconst 0, 1, []), (.goto 7, 3, [145])]),
  (141, [(.lload_n 2, 1, []), (.lload 4, 2, []), (.lrem, 1, [])]),
  (145, [(.lreturn, 1, [])]),
  (146, [(.lload_n 2, 1, []), (.lload_n 2, 1, []), (.lload 4, 2, []), (.invokestatic 292, 3, [136, 2, 1458, 0, 5]), (.lload 4, 2, []), (.lmul, 1, []), (.lsub, 1, []), (.lreturn, 1, [])])]
set_option maxRecDepth 100000 in
theorem ok_Machine_whole64 : fk_okM 135 B_Machine_whole64 = true := by decide +kernel
abbrev C_Machine_whole64 : fkC := [(87, [false, true, true, false, true, false])]
set_option maxRecDepth 100000 in
set_option maxHeartbeats 4000000 in
theorem S_Machine_whole64 {d : Nat} {a0 : Int32} {a1 : Int64} {a2 : Int64} {σ : fkS} {Q : Option Value → fkS → Prop} 
  (h : (((a0.toInt < 3 ∨ 5 < a0.toInt) →
    ((¬ (lg_cmp a2 (0 : Int64)) = 0 →
      ((¬ a0 = (6 : Int32) →
        Wq 135 (d + 1) 87 [none, some (.int a0), some (.long a1), none, some (.long a2), none] [] σ Q) ∧
       (a0 = (6 : Int32) →
        ((¬ (lg_cmp a1 (Int64.ofNat 9223372036854775808)) = 0 →
          Wq 135 (d + 1) 87 [none, some (.int a0), some (.long a1), none, some (.long a2), none] [] σ Q) ∧
         ((lg_cmp a1 (Int64.ofNat 9223372036854775808)) = 0 →
          ((¬ (lg_cmp a2 (Int64.ofNat 18446744073709551615)) = 0 →
            Wq 135 (d + 1) 87 [none, some (.int a0), some (.long a1), none, some (.long a2), none] [] σ Q) ∧
           ((lg_cmp a2 (Int64.ofNat 18446744073709551615)) = 0 →
            Q (some (.long (0 : Int64))) (sI σ 56 15 (3 : Int32))))))))) ∧
     ((lg_cmp a2 (0 : Int64)) = 0 →
      Q (some (.long (0 : Int64))) (sI σ 56 15 (2 : Int32))))) ∧
   (a0.toInt = 3 →
    Q (some (.long (a1 + a2))) σ) ∧
   (a0.toInt = 4 →
    Q (some (.long (a1 - a2))) σ) ∧
   (a0.toInt = 5 →
    Q (some (.long (a1 * a2))) σ) ∧ True)) :
  Cl (d + 1) 135 [.ref 56, .int a0, .long a1, .long a2] σ Q := by
  exact Cl.run B_Machine_whole64 C_Machine_whole64 21 fk_q135 ok_Machine_whole64 rfl h
set_option maxRecDepth 100000 in
set_option maxHeartbeats 4000000 in
theorem S_Machine_whole64_87 {d : Nat} {v1 : Int32} {v2 : Int64} {v4 : Int64} {σ : fkS} {Q : Option Value → fkS → Prop} 
  (h : (((v1.toInt < 6 ∨ 8 < v1.toInt) →
    (Dj d 136 [.long v2, .long v4] σ (fun x2 σ1 =>
    Q (some (.long (v2 - (x2 * v4)))) (sW σ1 σ)))) ∧
   (v1.toInt = 6 →
    (¬ v4 = 0 ∧
    Q (some (.long (v2 / v4))) σ)) ∧
   (v1.toInt = 7 →
    (Dj d 136 [.long v2, .long v4] σ (fun x4 σ3 =>
    Q (some (.long x4)) (sW σ3 σ)))) ∧
   (v1.toInt = 8 →
    ((¬ (lg_cmp v4 (Int64.ofNat 18446744073709551615)) = 0 →
      (¬ v4 = 0 ∧
      Q (some (.long (v2 - v2 / v4 * v4))) σ)) ∧
     ((lg_cmp v4 (Int64.ofNat 18446744073709551615)) = 0 →
      Q (some (.long (0 : Int64))) σ))) ∧ True)) :
  Wq 135 (d + 1) 87 [none, some (.int v1), some (.long v2), none, some (.long v4), none] [] σ Q := by
  exact fk_run_sound (B := B_Machine_whole64) (C := C_Machine_whole64) (n := 21) ok_Machine_whole64 h
def B_Machine_quotient : fkB := [(0, [(.lload_n 2, 1, []), (.lconst 0, 1, []), (.lcmp, 1, []), (.ifCond .gt 23, 3, [26])]),
  (6, [(.lload_n 2, 1, []), (.lconst 0, 1, []), (.lcmp, 1, []), (.ifCond .eq 11, 3, [20])]),
  (12, [(.lload_n 0, 1, []), (.lload_n 2, 1, []), (.invokestatic 277, 3, [128, 2, 1424, 0, 4]), (.ifCond .eq 7, 3, [24])]),
  (20, [(.lconst 0, 1, []), (.goto 4, 3, [25])]),
  (24, [(.lconst 1, 1, [])]),
  (25, [(.lreturn, 1, [])]),
  (26, [(.lload_n 0, 1, []), (.lconst 0, 1, []), (.lcmp, 1, []), (.ifCond .lt 7, 3, [36])]),
  (32, [(.lload_n 0, 1, []), (.lload_n 2, 1, []), (.ldiv, 1, []), (.lreturn, 1, [])]),
  (36, [(.lload_n 0, 1, []), (.iconst 1, 1, []), (.lushr, 1, []), (.lload_n 2, 1, []), (.ldiv, 1, []), (.iconst 1, 1, []), (.lshl, 1, []), (.lstore 4, 2, []), (.lload_n 0, 1, []), (.lload 4, 2, []), (.lload_n 2, 1, []), (.lmul, 1, []), (.lsub, 1, []), (.lload_n 2, 1, []), (.invokestatic 277, 3, [128, 2, 1424, 0, 4]), (.ifCond .eq 8, 3, [63])]),
  (58, [(.lload 4, 2, []), (.goto 7, 3, [67])]),
  (63, [(.lload 4, 2, []), (.lconst 1, 1, []), (.ladd, 1, [])]),
  (67, [(.lreturn, 1, [])])]
set_option maxRecDepth 100000 in
theorem ok_Machine_quotient : fk_okM 136 B_Machine_quotient = true := by decide +kernel
abbrev C_Machine_quotient : fkC := []
set_option maxRecDepth 100000 in
set_option maxHeartbeats 4000000 in
theorem S_Machine_quotient {d : Nat} {a0 : Int64} {a1 : Int64} {σ : fkS} {Q : Option Value → fkS → Prop} 
  (h : ((0 < (lg_cmp a1 (0 : Int64)) →
    (((lg_cmp a0 (0 : Int64)) < 0 →
      (¬ a1 = 0 ∧
      (Di d 128 [.long (a0 - ((fk_lshl ((fk_lushr a0 (1 : Int32)) / a1) (1 : Int32)) * a1)), .long a1] σ (fun x2 σ1 =>
      ((x2 = 0 →
        Q (some (.long ((fk_lshl ((fk_lushr a0 (1 : Int32)) / a1) (1 : Int32)) + (1 : Int64)))) (sW σ1 σ)) ∧
       (¬ x2 = 0 →
        Q (some (.long (fk_lshl ((fk_lushr a0 (1 : Int32)) / a1) (1 : Int32)))) (sW σ1 σ))))))) ∧
     (¬ (lg_cmp a0 (0 : Int64)) < 0 →
      (¬ a1 = 0 ∧
      Q (some (.long (a0 / a1))) σ)))) ∧
   (¬ 0 < (lg_cmp a1 (0 : Int64)) →
    (((lg_cmp a1 (0 : Int64)) = 0 →
      Q (some (.long (0 : Int64))) σ) ∧
     (¬ (lg_cmp a1 (0 : Int64)) = 0 →
      (Di d 128 [.long a0, .long a1] σ (fun x4 σ3 =>
      ((x4 = 0 →
        Q (some (.long (1 : Int64))) (sW σ3 σ)) ∧
       (¬ x4 = 0 →
        Q (some (.long (0 : Int64))) (sW σ3 σ)))))))))) :
  Cl (d + 1) 136 [.long a0, .long a1] σ Q := by
  exact Cl.run B_Machine_quotient C_Machine_quotient 15 fk_q136 ok_Machine_quotient rfl h
def B_Machine_shifted64 : fkB := [(0, [(.lload_n 3, 1, []), (.l2i, 1, []), (.bipush 63, 2, []), (.iand, 1, []), (.istore 5, 2, []), (.iload_n 0, 1, []), (.tableswitch 82 10 16 #[44, 48, 52, 56, 61, 66, 71], 44, [90, 52, 56, 60, 64, 69, 74, 79])]),
  (52, [(.lload_n 1, 1, []), (.lload_n 3, 1, []), (.land, 1, []), (.lreturn, 1, [])]),
  (56, [(.lload_n 1, 1, []), (.lload_n 3, 1, []), (.lor, 1, []), (.lreturn, 1, [])]),
  (60, [(.lload_n 1, 1, []), (.lload_n 3, 1, []), (.lxor, 1, []), (.lreturn, 1, [])]),
  (64, [(.lload_n 1, 1, []), (.iload 5, 2, []), (.lshl, 1, []), (.lreturn, 1, [])]),
  (69, [(.lload_n 1, 1, []), (.iload 5, 2, []), (.lshr, 1, []), (.lreturn, 1, [])]),
  (74, [(.lload_n 1, 1, []), (.iload 5, 2, []), (.lushr, 1, []), (.lreturn, 1, [])]),
  (79, [(.lload_n 1, 1, []), (.iload 5, 2, []), (.lshl, 1, []), (.lload_n 1, 1, []), (.iload 5, 2, []), (.ineg, 1, []), (.lushr, 1, []), (.lor, 1, []), (.lreturn, 1, [])]),
  (90, [(.lload_n 1, 1, []), (.iload 5, 2, []), (.lushr, 1, []), (.lload_n 1, 1, []), (.iload 5, 2, []), (.ineg, 1, []), (.lshl, 1, []), (.lor, 1, []), (.lreturn, 1, [])])]
set_option maxRecDepth 100000 in
theorem ok_Machine_shifted64 : fk_okM 137 B_Machine_shifted64 = true := by decide +kernel
abbrev C_Machine_shifted64 : fkC := []
set_option maxRecDepth 100000 in
set_option maxHeartbeats 4000000 in
theorem S_Machine_shifted64 {d : Nat} {a0 : Int32} {a1 : Int64} {a2 : Int64} {σ : fkS} {Q : Option Value → fkS → Prop} 
  (h : (((a0.toInt < 10 ∨ 16 < a0.toInt) →
    Q (some (.long ((fk_lushr a1 (a2.toInt32 &&& (63 : Int32))) ||| (fk_lshl a1 (-(a2.toInt32 &&& (63 : Int32))))))) σ) ∧
   (a0.toInt = 10 →
    Q (some (.long (a1 &&& a2))) σ) ∧
   (a0.toInt = 11 →
    Q (some (.long (a1 ||| a2))) σ) ∧
   (a0.toInt = 12 →
    Q (some (.long (a1 ^^^ a2))) σ) ∧
   (a0.toInt = 13 →
    Q (some (.long (fk_lshl a1 (a2.toInt32 &&& (63 : Int32))))) σ) ∧
   (a0.toInt = 14 →
    Q (some (.long (fk_lshr a1 (a2.toInt32 &&& (63 : Int32))))) σ) ∧
   (a0.toInt = 15 →
    Q (some (.long (fk_lushr a1 (a2.toInt32 &&& (63 : Int32))))) σ) ∧
   (a0.toInt = 16 →
    Q (some (.long ((fk_lshl a1 (a2.toInt32 &&& (63 : Int32))) ||| (fk_lushr a1 (-(a2.toInt32 &&& (63 : Int32))))))) σ) ∧ True)) :
  Cl d 137 [.int a0, .long a1, .long a2] σ Q := by
  exact Cl.run B_Machine_shifted64 C_Machine_shifted64 12 fk_q137 ok_Machine_shifted64 rfl h
