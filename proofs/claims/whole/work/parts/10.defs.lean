/-! the functions of the methods, by program out of the bytecode (wip/whole/gen.py) -/
def f_X0_clear (N : Nat) (v0 : Nat) (m : Mem) : Option (Mem) :=
  gd (kd v0 == 0) (gd (okA 12 (gR m v0 0) (0 : Int32)) (wr (sI m (gR m v0 0) (0 : Int32).toNatClampNeg (0 : Int32)) (fun m_3 => gd (okA 12 (gR m_3 v0 1) (0 : Int32)) (wr (sI m_3 (gR m_3 v0 1) (0 : Int32).toNatClampNeg (0 : Int32)) (fun m_5 => wr (sI m_5 v0 2 (1 : Int32)) (fun m_6 => some (m_6)))))))
def B_X0_keep_27 (N : Nat) (v0 : Nat) (v1 : Int32) (v2 : Int32) (s0 : Int32) (m : Mem) : Option (Mem) :=
  (if s0 = 0 then some (m) else gd (kd v0 == 0) ((if (256 : Int32) ≤ (gI m v0 5) then some (m) else gd (okA 12 (gR m v0 3) (gI m v0 5)) (wr (sI m (gR m v0 3) (gI m v0 5).toNatClampNeg v1) (fun m_4 => gd (okA 12 (gR m_4 v0 4) (gI m_4 v0 5)) (wr (sI m_4 (gR m_4 v0 4) (gI m_4 v0 5).toNatClampNeg v2) (fun m_6 => wr (sI m_6 v0 5 ((gI m_6 v0 5) + (1 : Int32))) (fun m_7 => some (m_7)))))))))
def B_X0_keep_22 (N : Nat) (v0 : Nat) (v1 : Int32) (v2 : Int32) (m : Mem) : Option (Mem) :=
  B_X0_keep_27 N v0 v1 v2 (1 : Int32) m
def f_X0_keep (N : Nat) (v0 : Nat) (v1 : Int32) (v2 : Int32) (m : Mem) : Option (Mem) :=
  gd (kd v0 == 0) ((if (gI m v0 5) = 0 then B_X0_keep_22 N v0 v1 v2 m else gd (okA 12 (gR m v0 4) ((gI m v0 5) - (1 : Int32))) ((if v2 ≤ (gI m (gR m v0 4) ((gI m v0 5) - (1 : Int32)).toNatClampNeg) then B_X0_keep_27 N v0 v1 v2 (0 : Int32) m else B_X0_keep_22 N v0 v1 v2 m))))
def f_X0_swap (N : Nat) (v0 : Nat) (m : Mem) : Option (Mem) :=
  gd (kd v0 == 0) (wr (sR m v0 0 (gR m v0 3)) (fun m_2 => wr (sR m_2 v0 1 (gR m_2 v0 4)) (fun m_3 => wr (sR m_3 v0 3 (gR m v0 0)) (fun m_4 => wr (sR m_4 v0 4 (gR m v0 1)) (fun m_5 => wr (sI m_5 v0 2 (gI m_5 v0 5)) (fun m_6 => some (m_6)))))))
def B_X0_add_59 (N : Nat) (rc : Nat → Int32 → Int32 → Int32 → Int32 → Int32 → Mem → Option (Nat × Mem)) (v0 : Nat) (v1 : Int32) (v2 : Int32) (v3 : Int32) (v4 : Int32) (v5 : Int32) (m : Mem) : Option (Nat × Mem) :=
  gd (kd v0 == 0) (gd (okA 12 (gR m v0 0) v3) (gd (okA 12 (gR m v0 1) v3) (b1 (f_X0_keep N v0 (gI m (gR m v0 0) v3.toNatClampNeg) (gI m (gR m v0 1) v3.toNatClampNeg) m) (fun m_7 => rc v0 v1 v2 (v3 + (1 : Int32)) v4 (v5 + (1 : Int32)) m_7))))
def B_X0_add_81 (N : Nat) (rc : Nat → Int32 → Int32 → Int32 → Int32 → Int32 → Mem → Option (Nat × Mem)) (v0 : Nat) (v1 : Int32) (v2 : Int32) (v3 : Int32) (v4 : Int32) (v5 : Int32) (m : Mem) : Option (Nat × Mem) :=
  gd (kd v0 == 0) (gd (okA 12 (gR m v0 0) v4) (gd (okA 12 (gR m v0 1) v4) (b1 (f_X0_keep N v0 ((gI m (gR m v0 0) v4.toNatClampNeg) + v1) ((gI m (gR m v0 1) v4.toNatClampNeg) + v2) m) (fun m_11 => rc v0 v1 v2 v3 (v4 + (1 : Int32)) (v5 + (1 : Int32)) m_11))))
def T_X0_add_13 (N : Nat) (rc : Nat → Int32 → Int32 → Int32 → Int32 → Int32 → Mem → Option (Nat × Mem)) (v0 : Nat) (v1 : Int32) (v2 : Int32) (v3 : Int32) (v4 : Int32) (v5 : Int32) (m : Mem) : Option (Nat × Mem) :=
  gd (kd v0 == 0) ((if ((2 : Int32) * (gI m v0 2)) ≤ v5 then some ((v0, m)) else (if (gI m v0 2) ≤ v4 then B_X0_add_59 N rc v0 v1 v2 v3 v4 v5 m else (if (gI m v0 2) ≤ v3 then B_X0_add_81 N rc v0 v1 v2 v3 v4 v5 m else gd (okA 12 (gR m v0 0) v3) (gd (okA 12 (gR m v0 0) v4) ((if ((gI m (gR m v0 0) v4.toNatClampNeg) + v1) < (gI m (gR m v0 0) v3.toNatClampNeg) then B_X0_add_81 N rc v0 v1 v2 v3 v4 v5 m else B_X0_add_59 N rc v0 v1 v2 v3 v4 v5 m)))))))
def L_X0_add_13 (N : Nat) : Nat → Nat → Int32 → Int32 → Int32 → Int32 → Int32 → Mem → Option (Nat × Mem)
  | 0 => fun _ _ _ _ _ _ _ => none
  | n + 1 => T_X0_add_13 N (L_X0_add_13 N n)
def f_X0_add (N : Nat) (v0 : Nat) (v1 : Int32) (v2 : Int32) (m : Mem) : Option (Mem) :=
  gd (kd v0 == 0) (wr (sI m v0 5 (0 : Int32)) (fun m_2 => l2 (L_X0_add_13 N N v0 v1 v2 (0 : Int32) (0 : Int32) (0 : Int32) m_2) (fun v0_18 m_18 => gd (kd v0_18 == 0) (b1 (f_X0_swap N v0_18 m_18) (fun m_20 => some (m_20))))))
def T_J7_fill_53178_5 (N : Nat) (rc : Nat → Int32 → Int32 → Int32 → Mem → Option (Mem)) (v0 : Nat) (v1 : Int32) (v2 : Int32) (v3 : Int32) (m : Mem) : Option (Mem) :=
  (if v3 ≤ v2 then some (m) else gd (okA 12 v0 v2) (wr (sI m v0 v2.toNatClampNeg v1) (fun m_3 => rc v0 v1 (v2 + (1 : Int32)) v3 m_3)))
def L_J7_fill_53178_5 (N : Nat) : Nat → Nat → Int32 → Int32 → Int32 → Mem → Option (Mem)
  | 0 => fun _ _ _ _ _ => none
  | n + 1 => T_J7_fill_53178_5 N (L_J7_fill_53178_5 N n)
def f_J7_fill_53178 (N : Nat) (v0 : Nat) (v1 : Int32) (m : Mem) : Option (Mem) :=
  gd (kd v0 == 12) (l1 (L_J7_fill_53178_5 N N v0 v1 (0 : Int32) (Int32.ofNat (ln v0)) m) (fun  m_5 => some (m_5)))
def T_X1_fundFromPool_3 (N : Nat) (rc : Nat → Nat → Nat → Int32 → Int32 → Mem → Option (Mem)) (v0 : Nat) (v1 : Nat) (v2 : Nat) (v3 : Int32) (v4 : Int32) (m : Mem) : Option (Mem) :=
  gd (kd v2 == 5) ((if (gI m v2 9) ≤ v4 then some (m) else gd (okA 12 (gR m v2 8) v4) (gd (okA 12 (gR m v2 4) (gI m (gR m v2 8) v4.toNatClampNeg)) ((if (gI m (gR m v2 4) (gI m (gR m v2 8) v4.toNatClampNeg).toNatClampNeg) < v3 then rc v0 v1 v2 v3 (v4 + (1 : Int32)) m else gd (kd v0 == 1) (gd (okA 12 (gR m v0 0) (gI m (gR m v2 8) v4.toNatClampNeg)) ((if (gI m (gR m v0 0) (gI m (gR m v2 8) v4.toNatClampNeg).toNatClampNeg) = 0 then gd (kd v1 == 6) (gd (okA 12 (gR m v1 12) (gI m (gR m v2 8) v4.toNatClampNeg)) ((if (gI m v0 2) < (gI m (gR m v1 12) (gI m (gR m v2 8) v4.toNatClampNeg).toNatClampNeg) then rc v0 v1 v2 v3 (v4 + (1 : Int32)) m else wr (sI m (gR m v0 0) (gI m (gR m v2 8) v4.toNatClampNeg).toNatClampNeg (gI m (gR m v1 12) (gI m (gR m v2 8) v4.toNatClampNeg).toNatClampNeg)) (fun m_8 => gd (okA 12 (gR m_8 v0 0) (gI m (gR m v2 8) v4.toNatClampNeg)) (wr (sI m_8 v0 2 ((gI m_8 v0 2) - (gI m_8 (gR m_8 v0 0) (gI m (gR m v2 8) v4.toNatClampNeg).toNatClampNeg))) (fun m_10 => rc v0 v1 v2 v3 (v4 + (1 : Int32)) m_10)))))) else rc v0 v1 v2 v3 (v4 + (1 : Int32)) m))))))))
def L_X1_fundFromPool_3 (N : Nat) : Nat → Nat → Nat → Nat → Int32 → Int32 → Mem → Option (Mem)
  | 0 => fun _ _ _ _ _ _ => none
  | n + 1 => T_X1_fundFromPool_3 N (L_X1_fundFromPool_3 N n)
def f_X1_fundFromPool (N : Nat) (v0 : Nat) (v1 : Nat) (v2 : Nat) (v3 : Int32) (m : Mem) : Option (Mem) :=
  l1 (L_X1_fundFromPool_3 N N v0 v1 v2 v3 (0 : Int32) m) (fun  m_15 => some (m_15))
def B_X1_panelShare_21 (N : Nat)  (m : Mem) : Option (Int32 × Mem) :=
  some ((0 : Int32), m)
def f_X1_panelShare (N : Nat) (v0 : Int32) (v1 : Int32) (v2 : Int32) (v3 : Int32) (m : Mem) : Option (Int32 × Mem) :=
  (if v1 < v2 then (if v0 = (2 : Int32) then (if v1 < v3 then B_X1_panelShare_21 N  m else some (v1, m)) else B_X1_panelShare_21 N  m) else some (v2, m))
def B_X1_fundPanel_128 (N : Nat) (rc : Nat → Nat → Nat → Int32 → Int32 → Int32 → Int32 → Int32 → Int32 → Mem → Option (Nat × Int32 × Int32 × Mem)) (v0 : Nat) (v1 : Nat) (v2 : Nat) (v3 : Int32) (v4 : Int32) (v5 : Int32) (v6 : Int32) (v8 : Int32) (s0 : Int32) (m : Mem) : Option (Nat × Int32 × Int32 × Mem) :=
  rc v0 v1 v2 v3 v4 v5 v6 s0 (v8 + (1 : Int32)) m
def B_X1_fundPanel_123 (N : Nat) (rc : Nat → Nat → Nat → Int32 → Int32 → Int32 → Int32 → Int32 → Int32 → Mem → Option (Nat × Int32 × Int32 × Mem)) (v0 : Nat) (v1 : Nat) (v2 : Nat) (v3 : Int32) (v4 : Int32) (v5 : Int32) (v6 : Int32) (v8 : Int32) (m : Mem) : Option (Nat × Int32 × Int32 × Mem) :=
  B_X1_fundPanel_128 N rc v0 v1 v2 v3 v4 v5 v6 v8 (1 : Int32) m
def T_X1_fundPanel_15 (N : Nat) (rc : Nat → Nat → Nat → Int32 → Int32 → Int32 → Int32 → Int32 → Int32 → Mem → Option (Nat × Int32 × Int32 × Mem)) (v0 : Nat) (v1 : Nat) (v2 : Nat) (v3 : Int32) (v4 : Int32) (v5 : Int32) (v6 : Int32) (v7 : Int32) (v8 : Int32) (m : Mem) : Option (Nat × Int32 × Int32 × Mem) :=
  gd (kd v2 == 5) ((if (gI m v2 9) ≤ v8 then some ((v0, v5, v6, m)) else (if v7 = 0 then some ((v0, v5, v6, m)) else gd (okA 12 (gR m v2 8) v8) (gd (kd v1 == 6) (gd (okA 12 (gR m v1 9) (gI m (gR m v2 8) v8.toNatClampNeg)) ((if (gI m (gR m v1 9) (gI m (gR m v2 8) v8.toNatClampNeg).toNatClampNeg) = v5 then gd (okA 12 (gR m v2 4) (gI m (gR m v2 8) v8.toNatClampNeg)) ((if (gI m (gR m v2 4) (gI m (gR m v2 8) v8.toNatClampNeg).toNatClampNeg) < v4 then rc v0 v1 v2 v3 v4 v5 v6 v7 (v8 + (1 : Int32)) m else gd (kd v0 == 1) (gd (okA 12 (gR m v1 12) (gI m (gR m v2 8) v8.toNatClampNeg)) (gd (okA 12 (gR m v1 13) (gI m (gR m v2 8) v8.toNatClampNeg)) (b2 (f_X1_panelShare N v3 v6 (gI m (gR m v1 12) (gI m (gR m v2 8) v8.toNatClampNeg).toNatClampNeg) (gI m (gR m v1 13) (gI m (gR m v2 8) v8.toNatClampNeg).toNatClampNeg) m) (fun r_11 m_11 => gd (okA 12 (gR m v0 0) (gI m (gR m v2 8) v8.toNatClampNeg)) (wr (sI m_11 (gR m v0 0) (gI m (gR m v2 8) v8.toNatClampNeg).toNatClampNeg r_11) (fun m_13 => gd (okA 12 (gR m_13 v0 0) (gI m (gR m v2 8) v8.toNatClampNeg)) ((if v3 = (1 : Int32) then B_X1_fundPanel_123 N rc v0 v1 v2 v3 v4 v5 (v6 - (gI m_13 (gR m_13 v0 0) (gI m (gR m v2 8) v8.toNatClampNeg).toNatClampNeg)) v8 m_13 else gd (okA 12 (gR m_13 v1 12) (gI m (gR m v2 8) v8.toNatClampNeg)) ((if (gI m_13 (gR m_13 v0 0) (gI m (gR m v2 8) v8.toNatClampNeg).toNatClampNeg) = (gI m_13 (gR m_13 v1 12) (gI m (gR m v2 8) v8.toNatClampNeg).toNatClampNeg) then B_X1_fundPanel_123 N rc v0 v1 v2 v3 v4 v5 (v6 - (gI m_13 (gR m_13 v0 0) (gI m (gR m v2 8) v8.toNatClampNeg).toNatClampNeg)) v8 m_13 else B_X1_fundPanel_128 N rc v0 v1 v2 v3 v4 v5 (v6 - (gI m_13 (gR m_13 v0 0) (gI m (gR m v2 8) v8.toNatClampNeg).toNatClampNeg)) v8 (0 : Int32) m_13)))))))))))) else rc v0 v1 v2 v3 v4 v5 v6 v7 (v8 + (1 : Int32)) m)))))))
def L_X1_fundPanel_15 (N : Nat) : Nat → Nat → Nat → Nat → Int32 → Int32 → Int32 → Int32 → Int32 → Int32 → Mem → Option (Nat × Int32 × Int32 × Mem)
  | 0 => fun _ _ _ _ _ _ _ _ _ _ => none
  | n + 1 => T_X1_fundPanel_15 N (L_X1_fundPanel_15 N n)
def B_X1_fundPanel_136 (N : Nat) (v0 : Nat) (v5 : Int32) (v6 : Int32) (m : Mem) : Option (Mem) :=
  gd (kd v0 == 1) (gd (okA 12 (gR m v0 1) v5) (wr (sI m (gR m v0 1) v5.toNatClampNeg v6) (fun m_25 => some (m_25))))
def f_X1_fundPanel (N : Nat) (v0 : Nat) (v1 : Nat) (v2 : Nat) (v3 : Int32) (v4 : Int32) (v5 : Int32) (m : Mem) : Option (Mem) :=
  gd (kd v1 == 6) (gd (okA 12 (gR m v1 3) v5) (l4 (L_X1_fundPanel_15 N N v0 v1 v2 v3 v4 v5 (gI m (gR m v1 3) v5.toNatClampNeg) (1 : Int32) (0 : Int32) m) (fun v0_22 v5_22 v6_22 m_22 => B_X1_fundPanel_136 N v0_22 v5_22 v6_22 m_22)))
def T_X1_distribute_19 (N : Nat) (rc : Nat → Nat → Nat → Int32 → Int32 → Int32 → Mem → Option (Nat × Nat × Nat × Int32 × Mem)) (v0 : Nat) (v1 : Nat) (v2 : Nat) (v3 : Int32) (v4 : Int32) (v5 : Int32) (m : Mem) : Option (Nat × Nat × Nat × Int32 × Mem) :=
  gd (kd v1 == 6) ((if (gI m v1 0) ≤ v5 then some ((v0, v1, v2, v4, m)) else gd (kd v0 == 1) (b1 (f_X1_fundPanel N v0 v1 v2 v3 v4 v5 m) (fun m_7 => gd (okA 12 (gR m_7 v0 1) v5) (wr (sI m_7 v0 2 ((gI m_7 v0 2) + (gI m_7 (gR m_7 v0 1) v5.toNatClampNeg))) (fun m_9 => rc v0 v1 v2 v3 v4 (v5 + (1 : Int32)) m_9))))))
def L_X1_distribute_19 (N : Nat) : Nat → Nat → Nat → Nat → Int32 → Int32 → Int32 → Mem → Option (Nat × Nat × Nat × Int32 × Mem)
  | 0 => fun _ _ _ _ _ _ _ => none
  | n + 1 => T_X1_distribute_19 N (L_X1_distribute_19 N n)
def f_X1_distribute (N : Nat) (v0 : Nat) (v1 : Nat) (v2 : Nat) (v3 : Int32) (v4 : Int32) (m : Mem) : Option (Mem) :=
  gd (kd v0 == 1) (b1 (f_J7_fill_53178 N (gR m v0 0) (0 : Int32) m) (fun m_2 => gd (kd v1 == 6) (wr (sI m_2 v0 2 (gI m_2 v1 17)) (fun m_4 => l5 (L_X1_distribute_19 N N v0 v1 v2 v3 v4 (0 : Int32) m_4) (fun v0_11 v1_11 v2_11 v4_11 m_11 => gd (kd v0_11 == 1) (b1 (f_X1_fundFromPool N v0_11 v1_11 v2_11 v4_11 m_11) (fun m_13 => some (m_13))))))))
def T_X1_winners_4 (N : Nat) (rc : Nat → Int32 → Int32 → Int32 → Mem → Option (Int32 × Mem)) (v0 : Nat) (v1 : Int32) (v2 : Int32) (v3 : Int32) (m : Mem) : Option (Int32 × Mem) :=
  (if v1 ≤ v3 then some ((v2, m)) else gd (kd v0 == 1) (gd (okA 12 (gR m v0 0) v3) ((if (gI m (gR m v0 0) v3.toNatClampNeg) ≤ 0 then rc v0 v1 v2 (v3 + (1 : Int32)) m else rc v0 v1 (v2 ||| ((1 : Int32) <<< (v3 &&& 31))) (v3 + (1 : Int32)) m))))
def L_X1_winners_4 (N : Nat) : Nat → Nat → Int32 → Int32 → Int32 → Mem → Option (Int32 × Mem)
  | 0 => fun _ _ _ _ _ => none
  | n + 1 => T_X1_winners_4 N (L_X1_winners_4 N n)
def f_X1_winners (N : Nat) (v0 : Nat) (v1 : Int32) (m : Mem) : Option (Int32 × Mem) :=
  l2 (L_X1_winners_4 N N v0 v1 (0 : Int32) (0 : Int32) m) (fun v2_5 m_5 => some (v2_5, m_5))
def f_X2_clear (N : Nat) (v0 : Nat) (m : Mem) : Option (Mem) :=
  gd (kd v0 == 2) (wr (sI m v0 2 (0 : Int32)) (fun m_2 => some (m_2)))
def f_X7_copyFrom (N : Nat) (v0 : Nat) (v1 : Nat) (m : Mem) : Option (Mem) :=
  gd (kd v1 == 7) (gd (kd v0 == 7) (gd (okC (gR m v1 0) (gR m v0 0) (0 : Int32) (0 : Int32) (192 : Int32)) (wr (cpI m (gR m v1 0) (0 : Int32).toNatClampNeg (gR m v0 0) (0 : Int32).toNatClampNeg (192 : Int32).toNatClampNeg) (fun m_4 => gd (okC (gR m_4 v1 1) (gR m_4 v0 1) (0 : Int32) (0 : Int32) (12 : Int32)) (wr (cpI m_4 (gR m_4 v1 1) (0 : Int32).toNatClampNeg (gR m_4 v0 1) (0 : Int32).toNatClampNeg (12 : Int32).toNatClampNeg) (fun m_6 => wr (sI m_6 v0 2 (gI m_6 v1 2)) (fun m_7 => wr (sI m_7 v0 3 (gI m_7 v1 3)) (fun m_8 => some (m_8)))))))))
def B_X2_remember_35 (N : Nat) (v0 : Nat) (s0 : Int32) (s1 : Nat) (m : Mem) : Option (Mem) :=
  gd (kd s1 == 2) (wr (sI m s1 1 s0) (fun m_6 => gd (kd v0 == 2) (wr (sI m_6 v0 2 (if (10 : Int32) < ((gI m_6 v0 2) + (1 : Int32)) then (10 : Int32) else ((gI m_6 v0 2) + (1 : Int32)))) (fun m_8 => some (m_8)))))
def f_X2_remember (N : Nat) (v0 : Nat) (v1 : Nat) (m : Mem) : Option (Mem) :=
  gd (kd v0 == 2) (gd (okA 14 (gR m v0 0) (gI m v0 1)) (gd (kd (gR m (gR m v0 0) (gI m v0 1).toNatClampNeg) == 7) (b1 (f_X7_copyFrom N (gR m (gR m v0 0) (gI m v0 1).toNatClampNeg) v1 m) (fun m_4 => (if (10 : Int32) ≤ ((gI m_4 v0 1) + (1 : Int32)) then B_X2_remember_35 N v0 (0 : Int32) v0 m_4 else B_X2_remember_35 N v0 ((gI m_4 v0 1) + (1 : Int32)) v0 m_4)))))
def B_X2_restore_19 (N : Nat) (v0 : Nat) (v1 : Nat) (s0 : Int32) (s1 : Nat) (m : Mem) : Option (Mem) :=
  gd (kd s1 == 2) (wr (sI m s1 1 s0) (fun m_3 => gd (kd v0 == 2) (wr (sI m_3 v0 2 ((gI m_3 v0 2) - (1 : Int32))) (fun m_5 => gd (okA 14 (gR m_5 v0 0) (gI m_5 v0 1)) (gd (kd v1 == 7) (b1 (f_X7_copyFrom N v1 (gR m_5 (gR m_5 v0 0) (gI m_5 v0 1).toNatClampNeg) m_5) (fun m_8 => some (m_8))))))))
def f_X2_restore (N : Nat) (v0 : Nat) (v1 : Nat) (m : Mem) : Option (Mem) :=
  gd (kd v0 == 2) ((if (gI m v0 1) ≤ 0 then B_X2_restore_19 N v0 v1 (9 : Int32) v0 m else B_X2_restore_19 N v0 v1 ((gI m v0 1) - (1 : Int32)) v0 m))
def f_X3_clear (N : Nat) (v0 : Nat) (m : Mem) : Option (Mem) :=
  gd (kd v0 == 3) (gd (kd (gR m v0 0) == 0) (b1 (f_X0_clear N (gR m v0 0) m) (fun m_3 => gd (kd (gR m_3 v0 1) == 0) (b1 (f_X0_clear N (gR m_3 v0 1) m_3) (fun m_5 => wr (sI m_5 v0 2 (0 : Int32)) (fun m_6 => some (m_6)))))))
def B_X3_offer_30 (N : Nat) (v0 : Nat) (m : Mem) : Option (Mem) :=
  gd (kd v0 == 3) (wr (sI m v0 2 ((gI m v0 2) + (1 : Int32))) (fun m_5 => some (m_5)))
def f_X3_offer (N : Nat) (v0 : Nat) (v1 : Int32) (v2 : Int32) (m : Mem) : Option (Mem) :=
  gd (kd v0 == 3) ((if ((gI m v0 2) &&& (1 : Int32)) = 0 then gd (kd (gR m v0 0) == 0) (b1 (f_X0_add N (gR m v0 0) v1 v2 m) (fun m_7 => B_X3_offer_30 N v0 m_7)) else gd (kd (gR m v0 1) == 0) (b1 (f_X0_add N (gR m v0 1) v1 v2 m) (fun m_3 => B_X3_offer_30 N v0 m_3))))
def T_X3_best_27 (N : Nat) (rc : Nat → Int32 → Int32 → Int32 → Int32 → Mem → Option (Nat × Int32 × Int32 × Int32 × Int32 × Mem)) (v0 : Nat) (v1 : Int32) (v2 : Int32) (v3 : Int32) (v4 : Int32) (m : Mem) : Option (Nat × Int32 × Int32 × Int32 × Int32 × Mem) :=
  (if v3 < 0 then some ((v0, v1, v2, v3, v4, m)) else gd (kd v0 == 3) (gd (kd (gR m v0 0) == 0) (gd (okA 12 (gR m (gR m v0 0) 0) v4) (gd (kd (gR m v0 1) == 0) (gd (okA 12 (gR m (gR m v0 1) 0) v3) ((if ((gI m (gR m (gR m v0 0) 0) v4.toNatClampNeg) + (gI m (gR m (gR m v0 1) 0) v3.toNatClampNeg)) ≤ v1 then some ((v0, v1, v2, v3, v4, m)) else rc v0 v1 v2 (v3 + (-1 : Int32)) v4 m)))))))
def L_X3_best_27 (N : Nat) : Nat → Nat → Int32 → Int32 → Int32 → Int32 → Mem → Option (Nat × Int32 × Int32 × Int32 × Int32 × Mem)
  | 0 => fun _ _ _ _ _ _ => none
  | n + 1 => T_X3_best_27 N (L_X3_best_27 N n)
def B_X3_best_61 (N : Nat) (rc : Nat → Int32 → Int32 → Int32 → Int32 → Mem → Option ((Int32 × Mem) ⊕ (Int32 × Mem))) (v0 : Nat) (v1 : Int32) (v2 : Int32) (v3 : Int32) (v4 : Int32) (m : Mem) : Option ((Int32 × Mem) ⊕ (Int32 × Mem)) :=
  (if 0 ≤ v3 then gd (kd v0 == 3) (gd (kd (gR m v0 0) == 0) (gd (okA 12 (gR m (gR m v0 0) 1) v4) (gd (kd (gR m v0 1) == 0) (gd (okA 12 (gR m (gR m v0 1) 1) v3) (rc v0 v1 (if v2 < ((gI m (gR m (gR m v0 0) 1) v4.toNatClampNeg) + (gI m (gR m (gR m v0 1) 1) v3.toNatClampNeg)) then ((gI m (gR m (gR m v0 0) 1) v4.toNatClampNeg) + (gI m (gR m (gR m v0 1) 1) v3.toNatClampNeg)) else v2) v3 (v4 + (1 : Int32)) m))))) else some (.inr ((v2, m))))
def T_X3_best_15 (N : Nat) (rc : Nat → Int32 → Int32 → Int32 → Int32 → Mem → Option ((Int32 × Mem) ⊕ (Int32 × Mem))) (v0 : Nat) (v1 : Int32) (v2 : Int32) (v3 : Int32) (v4 : Int32) (m : Mem) : Option ((Int32 × Mem) ⊕ (Int32 × Mem)) :=
  gd (kd v0 == 3) (gd (kd (gR m v0 0) == 0) ((if (gI m (gR m v0 0) 2) ≤ v4 then some (.inl ((v2, m))) else l6 (L_X3_best_27 N N v0 v1 v2 v3 v4 m) (fun v0_12 v1_12 v2_12 v3_12 v4_12 m_12 => B_X3_best_61 N rc v0_12 v1_12 v2_12 v3_12 v4_12 m_12))))
def L_X3_best_15 (N : Nat) : Nat → Nat → Int32 → Int32 → Int32 → Int32 → Mem → Option ((Int32 × Mem) ⊕ (Int32 × Mem))
  | 0 => fun _ _ _ _ _ _ => none
  | n + 1 => T_X3_best_15 N (L_X3_best_15 N n)
def f_X3_best (N : Nat) (v0 : Nat) (v1 : Int32) (m : Mem) : Option (Int32 × Mem) :=
  gd (kd v0 == 3) (gd (kd (gR m v0 1) == 0) ((L_X3_best_15 N N v0 v1 (0 : Int32) ((gI m (gR m v0 1) 2) - (1 : Int32)) (0 : Int32) m).bind (fun x9 => match x9 with | .inl ((v2_20, m_20)) => some (v2_20, m_20) | .inr ((v2_20, m_20)) => some (v2_20, m_20))))
def B_X4_bestEnd_51 (N : Nat) (rc : Nat → Int32 → Int32 → Mem → Option (Int32 × Mem)) (v0 : Nat) (v2 : Int32) (m : Mem) : Option (Int32 × Mem) :=
  rc v0 v2 (v2 + (1 : Int32)) m
def T_X4_bestEnd_4 (N : Nat) (rc : Nat → Int32 → Int32 → Mem → Option (Int32 × Mem)) (v0 : Nat) (v1 : Int32) (v2 : Int32) (m : Mem) : Option (Int32 × Mem) :=
  gd (kd v0 == 4) ((if (gI m v0 8) ≤ v2 then some ((v1, m)) else gd (okA 12 (gR m v0 2) v2) ((if (gI m (gR m v0 2) v2.toNatClampNeg) ≤ 0 then rc v0 v1 (v2 + (1 : Int32)) m else gd (okA 12 (gR m v0 5) v2) ((if (gI m (gR m v0 5) v2.toNatClampNeg) = (-1 : Int32) then rc v0 v1 (v2 + (1 : Int32)) m else (if v1 = (-1 : Int32) then B_X4_bestEnd_51 N rc v0 v2 m else gd (okA 12 (gR m v0 4) v2) (gd (okA 12 (gR m v0 4) v1) ((if (gI m (gR m v0 4) v2.toNatClampNeg) ≤ (gI m (gR m v0 4) v1.toNatClampNeg) then rc v0 v1 (v2 + (1 : Int32)) m else B_X4_bestEnd_51 N rc v0 v2 m))))))))))
def L_X4_bestEnd_4 (N : Nat) : Nat → Nat → Int32 → Int32 → Mem → Option (Int32 × Mem)
  | 0 => fun _ _ _ _ => none
  | n + 1 => T_X4_bestEnd_4 N (L_X4_bestEnd_4 N n)
def f_X4_bestEnd (N : Nat) (v0 : Nat) (m : Mem) : Option (Int32 × Mem) :=
  l2 (L_X4_bestEnd_4 N N v0 (-1 : Int32) (0 : Int32) m) (fun v1_11 m_11 => some (v1_11, m_11))
def f_X9_cell (N : Nat) (v0 : Int32) (v1 : Int32) (m : Mem) : Option (Int32 × Mem) :=
  some ((v0 * (16 : Int32)) + v1, m)
def T_X4_reachProposals_14 (N : Nat) (rc : Nat → Int32 → Int32 → Int32 → Mem → Option (Nat × Int32 × Int32 × Mem)) (v0 : Nat) (v1 : Int32) (v2 : Int32) (v3 : Int32) (m : Mem) : Option (Nat × Int32 × Int32 × Mem) :=
  gd (kd v0 == 4) ((if (gI m v0 9) ≤ v3 then some ((v0, v1, v2, m)) else gd (okA 12 (gR m v0 4) v2) ((if (gI m (gR m v0 4) v2.toNatClampNeg) = (-1000000 : Int32) then some ((v0, v1, v2, m)) else b2 (f_X9_cell N v2 v3 m) (fun r_4 m_4 => gd (okA 13 (gR m_4 v0 1) r_4) ((if (gI m_4 (gR m_4 v0 1) r_4.toNatClampNeg) = 0 then rc v0 v1 v2 (v3 + (1 : Int32)) m_4 else gd (okA 12 (gR m_4 v0 4) v2) (gd (okA 12 (gR m_4 v0 0) r_4) (gd (okA 12 (gR m_4 v0 6) v3) ((if ((gI m_4 (gR m_4 v0 4) v2.toNatClampNeg) - (gI m_4 (gR m_4 v0 0) r_4.toNatClampNeg)) ≤ (gI m_4 (gR m_4 v0 6) v3.toNatClampNeg) then rc v0 v1 v2 (v3 + (1 : Int32)) m_4 else wr (sI m_4 (gR m_4 v0 6) v3.toNatClampNeg ((gI m_4 (gR m_4 v0 4) v2.toNatClampNeg) - (gI m_4 (gR m_4 v0 0) r_4.toNatClampNeg))) (fun m_9 => gd (okA 12 (gR m_9 v0 7) v3) (wr (sI m_9 (gR m_9 v0 7) v3.toNatClampNeg v2) (fun m_11 => rc v0 (1 : Int32) v2 (v3 + (1 : Int32)) m_11))))))))))))))
def L_X4_reachProposals_14 (N : Nat) : Nat → Nat → Int32 → Int32 → Int32 → Mem → Option (Nat × Int32 × Int32 × Mem)
  | 0 => fun _ _ _ _ _ => none
  | n + 1 => T_X4_reachProposals_14 N (L_X4_reachProposals_14 N n)
def T_X4_reachProposals_4 (N : Nat) (rc : Nat → Int32 → Int32 → Mem → Option (Int32 × Mem)) (v0 : Nat) (v1 : Int32) (v2 : Int32) (m : Mem) : Option (Int32 × Mem) :=
  gd (kd v0 == 4) ((if (gI m v0 8) ≤ v2 then some ((v1, m)) else l4 (L_X4_reachProposals_14 N N v0 v1 v2 (0 : Int32) m) (fun v0_16 v1_16 v2_16 m_16 => rc v0_16 v1_16 (v2_16 + (1 : Int32)) m_16)))
def L_X4_reachProposals_4 (N : Nat) : Nat → Nat → Int32 → Int32 → Mem → Option (Int32 × Mem)
  | 0 => fun _ _ _ _ => none
  | n + 1 => T_X4_reachProposals_4 N (L_X4_reachProposals_4 N n)
def f_X4_reachProposals (N : Nat) (v0 : Nat) (m : Mem) : Option (Int32 × Mem) :=
  l2 (L_X4_reachProposals_4 N N v0 (0 : Int32) (0 : Int32) m) (fun v1_18 m_18 => gd (isB v1_18) (some (v1_18, m_18)))
def T_X4_reachReviewers_14 (N : Nat) (rc : Nat → Int32 → Int32 → Int32 → Mem → Option (Nat × Int32 × Int32 × Mem)) (v0 : Nat) (v1 : Int32) (v2 : Int32) (v3 : Int32) (m : Mem) : Option (Nat × Int32 × Int32 × Mem) :=
  gd (kd v0 == 4) ((if (gI m v0 8) ≤ v3 then some ((v0, v1, v2, m)) else gd (okA 12 (gR m v0 6) v2) ((if (gI m (gR m v0 6) v2.toNatClampNeg) = (-1000000 : Int32) then some ((v0, v1, v2, m)) else b2 (f_X9_cell N v3 v2 m) (fun r_4 m_4 => gd (okA 12 (gR m_4 v0 0) r_4) ((if (gI m_4 (gR m_4 v0 0) r_4.toNatClampNeg) = (-1 : Int32) then rc v0 v1 v2 (v3 + (1 : Int32)) m_4 else gd (okA 13 (gR m_4 v0 1) r_4) ((if (gI m_4 (gR m_4 v0 1) r_4.toNatClampNeg) = 0 then gd (okA 12 (gR m_4 v0 6) v2) (gd (okA 12 (gR m_4 v0 4) v3) ((if ((gI m_4 (gR m_4 v0 6) v2.toNatClampNeg) + (gI m_4 (gR m_4 v0 0) r_4.toNatClampNeg)) ≤ (gI m_4 (gR m_4 v0 4) v3.toNatClampNeg) then rc v0 v1 v2 (v3 + (1 : Int32)) m_4 else wr (sI m_4 (gR m_4 v0 4) v3.toNatClampNeg ((gI m_4 (gR m_4 v0 6) v2.toNatClampNeg) + (gI m_4 (gR m_4 v0 0) r_4.toNatClampNeg))) (fun m_9 => gd (okA 12 (gR m_9 v0 5) v3) (wr (sI m_9 (gR m_9 v0 5) v3.toNatClampNeg v2) (fun m_11 => rc v0 (1 : Int32) v2 (v3 + (1 : Int32)) m_11)))))) else rc v0 v1 v2 (v3 + (1 : Int32)) m_4)))))))))
def L_X4_reachReviewers_14 (N : Nat) : Nat → Nat → Int32 → Int32 → Int32 → Mem → Option (Nat × Int32 × Int32 × Mem)
  | 0 => fun _ _ _ _ _ => none
  | n + 1 => T_X4_reachReviewers_14 N (L_X4_reachReviewers_14 N n)
def T_X4_reachReviewers_4 (N : Nat) (rc : Nat → Int32 → Int32 → Mem → Option (Int32 × Mem)) (v0 : Nat) (v1 : Int32) (v2 : Int32) (m : Mem) : Option (Int32 × Mem) :=
  gd (kd v0 == 4) ((if (gI m v0 9) ≤ v2 then some ((v1, m)) else l4 (L_X4_reachReviewers_14 N N v0 v1 v2 (0 : Int32) m) (fun v0_17 v1_17 v2_17 m_17 => rc v0_17 v1_17 (v2_17 + (1 : Int32)) m_17)))
def L_X4_reachReviewers_4 (N : Nat) : Nat → Nat → Int32 → Int32 → Mem → Option (Int32 × Mem)
  | 0 => fun _ _ _ _ => none
  | n + 1 => T_X4_reachReviewers_4 N (L_X4_reachReviewers_4 N n)
def f_X4_reachReviewers (N : Nat) (v0 : Nat) (m : Mem) : Option (Int32 × Mem) :=
  l2 (L_X4_reachReviewers_4 N N v0 (0 : Int32) (0 : Int32) m) (fun v1_19 m_19 => gd (isB v1_19) (some (v1_19, m_19)))
def B_X4_findPaths_55 (N : Nat) (rc : Nat → Int32 → Mem → Option (Nat × Mem)) (v0 : Nat) (v1 : Int32) (s0 : Int32) (s1 : Int32) (s2 : Nat) (m : Mem) : Option (Nat × Mem) :=
  gd (okA 12 s2 s1) (wr (sI m s2 s1.toNatClampNeg s0) (fun m_8 => rc v0 (v1 + (1 : Int32)) m_8))
def T_X4_findPaths_27 (N : Nat) (rc : Nat → Int32 → Mem → Option (Nat × Mem)) (v0 : Nat) (v1 : Int32) (m : Mem) : Option (Nat × Mem) :=
  gd (kd v0 == 4) ((if (gI m v0 9) ≤ v1 then some ((v0, m)) else gd (okA 12 (gR m v0 3) v1) ((if (gI m (gR m v0 3) v1.toNatClampNeg) ≤ 0 then B_X4_findPaths_55 N rc v0 v1 (-1000000 : Int32) v1 (gR m v0 6) m else B_X4_findPaths_55 N rc v0 v1 (0 : Int32) v1 (gR m v0 6) m))))
def L_X4_findPaths_27 (N : Nat) : Nat → Nat → Int32 → Mem → Option (Nat × Mem)
  | 0 => fun _ _ _ => none
  | n + 1 => T_X4_findPaths_27 N (L_X4_findPaths_27 N n)
def T_X4_findPaths_64 (N : Nat) (rc : Nat → Int32 → Mem → Option ((Mem) ⊕ (Mem))) (v0 : Nat) (v1 : Int32) (m : Mem) : Option ((Mem) ⊕ (Mem)) :=
  (if (12 : Int32) < v1 then some (.inl (m)) else gd (kd v0 == 4) (b2 (f_X4_reachReviewers N v0 m) (fun r_13 m_13 => (if r_13 = 0 then some (.inr (m_13)) else b2 (f_X4_reachProposals N v0 m_13) (fun r_14 m_14 => (if r_14 = 0 then some (.inr (m_14)) else rc v0 (v1 + (1 : Int32)) m_14))))))
def L_X4_findPaths_64 (N : Nat) : Nat → Nat → Int32 → Mem → Option ((Mem) ⊕ (Mem))
  | 0 => fun _ _ _ => none
  | n + 1 => T_X4_findPaths_64 N (L_X4_findPaths_64 N n)
def f_X4_findPaths (N : Nat) (v0 : Nat) (m : Mem) : Option (Mem) :=
  gd (kd v0 == 4) (b1 (f_J7_fill_53178 N (gR m v0 4) (-1000000 : Int32) m) (fun m_2 => b1 (f_J7_fill_53178 N (gR m_2 v0 5) (-1 : Int32) m_2) (fun m_3 => b1 (f_J7_fill_53178 N (gR m_3 v0 7) (-1 : Int32) m_3) (fun m_4 => l2 (L_X4_findPaths_27 N N v0 (0 : Int32) m_4) (fun v0_11 m_11 => (L_X4_findPaths_64 N N v0_11 (0 : Int32) m_11).bind (fun x9 => match x9 with | .inl (m_18) => some (m_18) | .inr (m_18) => some (m_18)))))))
def T_X4_follow_14 (N : Nat) (rc : Nat → Int32 → Int32 → Mem → Option ((Mem) ⊕ (Mem))) (v0 : Nat) (v2 : Int32) (v3 : Int32) (m : Mem) : Option ((Mem) ⊕ (Mem)) :=
  (if (12 : Int32) ≤ v3 then some (.inl (m)) else (if v2 = (-1 : Int32) then some (.inl (m)) else gd (kd v0 == 4) (gd (okA 12 (gR m v0 5) v2) ((if (gI m (gR m v0 5) v2.toNatClampNeg) = (-1 : Int32) then some (.inr (m)) else b2 (f_X9_cell N v2 (gI m (gR m v0 5) v2.toNatClampNeg) m) (fun r_6 m_6 => gd (okA 13 (gR m v0 1) r_6) (wr (sI m_6 (gR m v0 1) r_6.toNatClampNeg (vp_nar .boolean (1 : Int32))) (fun m_8 => gd (okA 12 (gR m_8 v0 7) (gI m (gR m v0 5) v2.toNatClampNeg)) ((if (gI m_8 (gR m_8 v0 7) (gI m (gR m v0 5) v2.toNatClampNeg).toNatClampNeg) = (-1 : Int32) then gd (okA 12 (gR m_8 v0 3) (gI m (gR m v0 5) v2.toNatClampNeg)) (wr (sI m_8 (gR m_8 v0 3) (gI m (gR m v0 5) v2.toNatClampNeg).toNatClampNeg ((gI m_8 (gR m_8 v0 3) (gI m (gR m v0 5) v2.toNatClampNeg).toNatClampNeg) - (1 : Int32))) (fun m_14 => rc v0 (gI m_8 (gR m_8 v0 7) (gI m (gR m v0 5) v2.toNatClampNeg).toNatClampNeg) (v3 + (1 : Int32)) m_14)) else b2 (f_X9_cell N (gI m_8 (gR m_8 v0 7) (gI m (gR m v0 5) v2.toNatClampNeg).toNatClampNeg) (gI m (gR m v0 5) v2.toNatClampNeg) m_8) (fun r_10 m_10 => gd (okA 13 (gR m_8 v0 1) r_10) (wr (sI m_10 (gR m_8 v0 1) r_10.toNatClampNeg (vp_nar .boolean (0 : Int32))) (fun m_12 => rc v0 (gI m_8 (gR m_8 v0 7) (gI m (gR m v0 5) v2.toNatClampNeg).toNatClampNeg) (v3 + (1 : Int32)) m_12)))))))))))))
def L_X4_follow_14 (N : Nat) : Nat → Nat → Int32 → Int32 → Mem → Option ((Mem) ⊕ (Mem))
  | 0 => fun _ _ _ _ => none
  | n + 1 => T_X4_follow_14 N (L_X4_follow_14 N n)
def f_X4_follow (N : Nat) (v0 : Nat) (v1 : Int32) (m : Mem) : Option (Mem) :=
  gd (kd v0 == 4) (gd (okA 12 (gR m v0 2) v1) (wr (sI m (gR m v0 2) v1.toNatClampNeg ((gI m (gR m v0 2) v1.toNatClampNeg) - (1 : Int32))) (fun m_3 => (L_X4_follow_14 N N v0 v1 (0 : Int32) m_3).bind (fun x9 => match x9 with | .inl (m_19) => some (m_19) | .inr (m_19) => some (m_19)))))
def f_X6_matchOf (N : Nat) (v0 : Nat) (v1 : Int32) (v2 : Int32) (m : Mem) : Option (Int32 × Mem) :=
  gd (kd v0 == 6) (gd (okA 12 (gR m v0 11) v2) (gd (okA 12 (gR m v0 7) v1) ((if ((gI m (gR m v0 7) v1.toNatClampNeg) &&& ((1 : Int32) <<< ((gI m (gR m v0 11) v2.toNatClampNeg) &&& 31))) = 0 then (if ((gI m (gR m v0 7) v1.toNatClampNeg) &&& ((((1 : Int32) <<< ((gI m (gR m v0 11) v2.toNatClampNeg) &&& 31)) <<< ((1 : Int32) &&& 31)) ||| (((1 : Int32) <<< ((gI m (gR m v0 11) v2.toNatClampNeg) &&& 31)) >>> ((1 : Int32) &&& 31)))) = 0 then some ((0 : Int32), m) else some ((1 : Int32), m)) else some ((2 : Int32), m)))))
def f_X7_isDeclared (N : Nat) (v0 : Nat) (v1 : Int32) (v2 : Int32) (m : Mem) : Option (Int32 × Mem) :=
  gd (kd v0 == 7) (gd (okA 12 (gR m v0 1) v1) ((if (((gI m (gR m v0 1) v1.toNatClampNeg) >>> (v2 &&& 31)) &&& (1 : Int32)) = 0 then gd (isB (0 : Int32)) (some ((0 : Int32), m)) else gd (isB (1 : Int32)) (some ((1 : Int32), m)))))
def B_X9_hasConflict_24 (N : Nat)  (m : Mem) : Option (Int32 × Mem) :=
  gd (isB (1 : Int32)) (some ((1 : Int32), m))
def f_X9_hasConflict (N : Nat) (v0 : Nat) (v1 : Nat) (v2 : Int32) (v3 : Int32) (m : Mem) : Option (Int32 × Mem) :=
  gd (kd v0 == 6) (gd (okA 12 (gR m v0 5) v2) (gd (okA 12 (gR m v0 10) v3) ((if (gI m (gR m v0 5) v2.toNatClampNeg) = (gI m (gR m v0 10) v3.toNatClampNeg) then B_X9_hasConflict_24 N  m else gd (kd v1 == 7) (b2 (f_X7_isDeclared N v1 v2 v3 m) (fun r_6 m_6 => (if r_6 = 0 then gd (isB (0 : Int32)) (some ((0 : Int32), m_6)) else B_X9_hasConflict_24 N  m_6)))))))
def B_X9_fits_29 (N : Nat)  (m : Mem) : Option (Int32 × Mem) :=
  gd (isB (0 : Int32)) (some ((0 : Int32), m))
def f_X9_fits (N : Nat) (v0 : Nat) (v1 : Nat) (v2 : Int32) (v3 : Int32) (m : Mem) : Option (Int32 × Mem) :=
  gd (kd v0 == 6) (gd (okA 12 (gR m v0 4) v2) (gd (okA 12 (gR m v0 9) v3) ((if (gI m (gR m v0 4) v2.toNatClampNeg) = (gI m (gR m v0 9) v3.toNatClampNeg) then b2 (f_X9_hasConflict N v0 v1 v2 v3 m) (fun r_5 m_5 => (if r_5 = 0 then gd (isB (1 : Int32)) (some ((1 : Int32), m_5)) else B_X9_fits_29 N  m_5)) else B_X9_fits_29 N  m))))
def T_X4_prepare_29 (N : Nat) (rc : Nat → Nat → Nat → Int32 → Int32 → Mem → Option (Nat × Nat × Nat × Int32 × Mem)) (v0 : Nat) (v1 : Nat) (v2 : Nat) (v3 : Int32) (v4 : Int32) (m : Mem) : Option (Nat × Nat × Nat × Int32 × Mem) :=
  gd (kd v0 == 4) ((if (gI m v0 8) ≤ v4 then some ((v0, v1, v2, v3, m)) else gd (kd v1 == 6) (gd (okA 12 (gR m v1 6) v4) (gd (okA 12 (gR m v0 2) v4) (wr (sI m (gR m v0 2) v4.toNatClampNeg (gI m (gR m v1 6) v4.toNatClampNeg)) (fun m_11 => rc v0 v1 v2 v3 (v4 + (1 : Int32)) m_11))))))
def L_X4_prepare_29 (N : Nat) : Nat → Nat → Nat → Nat → Int32 → Int32 → Mem → Option (Nat × Nat × Nat × Int32 × Mem)
  | 0 => fun _ _ _ _ _ _ => none
  | n + 1 => T_X4_prepare_29 N (L_X4_prepare_29 N n)
def B_X4_prepare_172 (N : Nat) (rc : Nat → Nat → Nat → Int32 → Int32 → Int32 → Int32 → Mem → Option (Nat × Nat × Nat × Int32 × Int32 × Mem)) (v0 : Nat) (v1 : Nat) (v2 : Nat) (v3 : Int32) (v4 : Int32) (v5 : Int32) (v6 : Int32) (s0 : Int32) (s1 : Int32) (s2 : Nat) (m : Mem) : Option (Nat × Nat × Nat × Int32 × Int32 × Mem) :=
  gd (okA 12 s2 s1) (wr (sI m s2 s1.toNatClampNeg s0) (fun m_24 => gd (kd v0 == 4) (b2 (f_X9_cell N v6 v4 m_24) (fun r_26 m_26 => gd (okA 13 (gR m_24 v0 1) r_26) (wr (sI m_26 (gR m_24 v0 1) r_26.toNatClampNeg (vp_nar .boolean (0 : Int32))) (fun m_28 => rc v0 v1 v2 v3 v4 v5 (v6 + (1 : Int32)) m_28))))))
def B_X4_prepare_142 (N : Nat) (rc : Nat → Nat → Nat → Int32 → Int32 → Int32 → Int32 → Mem → Option (Nat × Nat × Nat × Int32 × Int32 × Mem)) (v0 : Nat) (v1 : Nat) (v2 : Nat) (v3 : Int32) (v4 : Int32) (v5 : Int32) (v6 : Int32) (s0 : Int32) (m : Mem) : Option (Nat × Nat × Nat × Int32 × Int32 × Mem) :=
  gd (kd v0 == 4) (b2 (f_X9_cell N v6 v4 m) (fun r_22 m_22 => (if s0 = 0 then B_X4_prepare_172 N rc v0 v1 v2 v3 v4 v5 v6 (-1 : Int32) r_22 (gR m v0 0) m_22 else gd (kd v1 == 6) (b2 (f_X6_matchOf N v1 v6 v4 m_22) (fun r_30 m_30 => B_X4_prepare_172 N rc v0 v1 v2 v3 v4 v5 v6 r_30 r_22 (gR m v0 0) m_30)))))
def B_X4_prepare_141 (N : Nat) (rc : Nat → Nat → Nat → Int32 → Int32 → Int32 → Int32 → Mem → Option (Nat × Nat × Nat × Int32 × Int32 × Mem)) (v0 : Nat) (v1 : Nat) (v2 : Nat) (v3 : Int32) (v4 : Int32) (v5 : Int32) (v6 : Int32) (m : Mem) : Option (Nat × Nat × Nat × Int32 × Int32 × Mem) :=
  B_X4_prepare_142 N rc v0 v1 v2 v3 v4 v5 v6 (0 : Int32) m
def T_X4_prepare_111 (N : Nat) (rc : Nat → Nat → Nat → Int32 → Int32 → Int32 → Int32 → Mem → Option (Nat × Nat × Nat × Int32 × Int32 × Mem)) (v0 : Nat) (v1 : Nat) (v2 : Nat) (v3 : Int32) (v4 : Int32) (v5 : Int32) (v6 : Int32) (m : Mem) : Option (Nat × Nat × Nat × Int32 × Int32 × Mem) :=
  gd (kd v0 == 4) ((if (gI m v0 8) ≤ v6 then some ((v0, v1, v2, v3, v4, m)) else (if v5 = 0 then B_X4_prepare_141 N rc v0 v1 v2 v3 v4 v5 v6 m else b2 (f_X9_fits N v1 v2 v6 v4 m) (fun r_32 m_32 => (if r_32 = 0 then B_X4_prepare_141 N rc v0 v1 v2 v3 v4 v5 v6 m_32 else B_X4_prepare_142 N rc v0 v1 v2 v3 v4 v5 v6 (1 : Int32) m_32)))))
def L_X4_prepare_111 (N : Nat) : Nat → Nat → Nat → Nat → Int32 → Int32 → Int32 → Int32 → Mem → Option (Nat × Nat × Nat × Int32 × Int32 × Mem)
  | 0 => fun _ _ _ _ _ _ _ _ => none
  | n + 1 => T_X4_prepare_111 N (L_X4_prepare_111 N n)
def B_X4_prepare_107 (N : Nat) (rc : Nat → Nat → Nat → Int32 → Int32 → Mem → Option (Mem)) (v0 : Nat) (v1 : Nat) (v2 : Nat) (v3 : Int32) (v4 : Int32) (v5 : Int32) (s0 : Int32) (s1 : Int32) (s2 : Nat) (m : Mem) : Option (Mem) :=
  gd (okA 12 s2 s1) (wr (sI m s2 s1.toNatClampNeg s0) (fun m_19 => l6 (L_X4_prepare_111 N N v0 v1 v2 v3 v4 v5 (0 : Int32) m_19) (fun v0_36 v1_36 v2_36 v3_36 v4_36 m_36 => rc v0_36 v1_36 v2_36 v3_36 (v4_36 + (1 : Int32)) m_36)))
def B_X4_prepare_86 (N : Nat) (rc : Nat → Nat → Nat → Int32 → Int32 → Mem → Option (Mem)) (v0 : Nat) (v1 : Nat) (v2 : Nat) (v3 : Int32) (v4 : Int32) (s0 : Int32) (m : Mem) : Option (Mem) :=
  gd (kd v0 == 4) ((if s0 = 0 then B_X4_prepare_107 N rc v0 v1 v2 v3 v4 s0 (0 : Int32) v4 (gR m v0 3) m else gd (kd v1 == 6) (B_X4_prepare_107 N rc v0 v1 v2 v3 v4 s0 (gI m v1 14) v4 (gR m v0 3) m)))
def T_X4_prepare_61 (N : Nat) (rc : Nat → Nat → Nat → Int32 → Int32 → Mem → Option (Mem)) (v0 : Nat) (v1 : Nat) (v2 : Nat) (v3 : Int32) (v4 : Int32) (m : Mem) : Option (Mem) :=
  gd (kd v0 == 4) ((if (gI m v0 9) ≤ v4 then some (m) else gd (kd v1 == 6) (gd (okA 12 (gR m v1 9) v4) ((if (gI m (gR m v1 9) v4.toNatClampNeg) = v3 then B_X4_prepare_86 N rc v0 v1 v2 v3 v4 (1 : Int32) m else B_X4_prepare_86 N rc v0 v1 v2 v3 v4 (0 : Int32) m)))))
def L_X4_prepare_61 (N : Nat) : Nat → Nat → Nat → Nat → Int32 → Int32 → Mem → Option (Mem)
  | 0 => fun _ _ _ _ _ _ => none
  | n + 1 => T_X4_prepare_61 N (L_X4_prepare_61 N n)
def f_X4_prepare (N : Nat) (v0 : Nat) (v1 : Nat) (v2 : Nat) (v3 : Int32) (m : Mem) : Option (Mem) :=
  gd (kd v0 == 4) (wr (sI m v0 10 (0 : Int32)) (fun m_2 => wr (sI m_2 v0 11 (0 : Int32)) (fun m_3 => gd (kd v1 == 6) (wr (sI m_3 v0 8 (gI m_3 v1 1)) (fun m_5 => wr (sI m_5 v0 9 (gI m_5 v1 2)) (fun m_6 => l5 (L_X4_prepare_29 N N v0 v1 v2 v3 (0 : Int32) m_6) (fun v0_13 v1_13 v2_13 v3_13 m_13 => l1 (L_X4_prepare_61 N N v0_13 v1_13 v2_13 v3_13 (0 : Int32) m_13) (fun  m_41 => some (m_41)))))))))
def T_X4_solve_10 (N : Nat) (rc : Nat → Int32 → Mem → Option ((Mem) ⊕ (Mem))) (v0 : Nat) (v4 : Int32) (m : Mem) : Option ((Mem) ⊕ (Mem)) :=
  (if (64 : Int32) ≤ v4 then some (.inl (m)) else gd (kd v0 == 4) (b1 (f_X4_findPaths N v0 m) (fun m_4 => b2 (f_X4_bestEnd N v0 m_4) (fun r_5 m_5 => (if r_5 = (-1 : Int32) then some (.inr (m_5)) else wr (sI m_5 v0 10 ((gI m_5 v0 10) + (1 : Int32))) (fun m_6 => gd (okA 12 (gR m_6 v0 4) r_5) (wr (sI m_6 v0 11 ((gI m_6 v0 11) + (gI m_6 (gR m_6 v0 4) r_5.toNatClampNeg))) (fun m_8 => b1 (f_X4_follow N v0 r_5 m_8) (fun m_9 => rc v0 (v4 + (1 : Int32)) m_9)))))))))
def L_X4_solve_10 (N : Nat) : Nat → Nat → Int32 → Mem → Option ((Mem) ⊕ (Mem))
  | 0 => fun _ _ _ => none
  | n + 1 => T_X4_solve_10 N (L_X4_solve_10 N n)
def f_X4_solve (N : Nat) (v0 : Nat) (v1 : Nat) (v2 : Nat) (v3 : Int32) (m : Mem) : Option (Mem) :=
  gd (kd v0 == 4) (b1 (f_X4_prepare N v0 v1 v2 v3 m) (fun m_2 => (L_X4_solve_10 N N v0 (0 : Int32) m_2).bind (fun x9 => match x9 with | .inl (m_12) => some (m_12) | .inr (m_12) => some (m_12))))
def f_X5_merit (N : Nat) (v0 : Nat) (v1 : Int32) (v2 : Int32) (m : Mem) : Option (Int32 × Mem) :=
  (if v1 = (0 : Int32) then gd (kd v0 == 5) (gd (okA 12 (gR m v0 4) v2) (some (gI m (gR m v0 4) v2.toNatClampNeg, m))) else if v1 = (1 : Int32) then gd (kd v0 == 5) (gd (okA 12 (gR m v0 5) v2) (some (gI m (gR m v0 5) v2.toNatClampNeg, m))) else if v1 = (2 : Int32) then gd (kd v0 == 5) (gd (okA 12 (gR m v0 6) v2) (some (gI m (gR m v0 6) v2.toNatClampNeg, m))) else if v1 = (3 : Int32) then gd (kd v0 == 5) (gd (okA 12 (gR m v0 7) v2) (some (-(gI m (gR m v0 7) v2.toNatClampNeg), m))) else some (-v2, m))
def T_X5_separation_2 (N : Nat) (rc : Nat → Int32 → Int32 → Int32 → Mem → Option ((Mem) ⊕ (Int32 × Mem))) (v0 : Nat) (v1 : Int32) (v2 : Int32) (v3 : Int32) (m : Mem) : Option ((Mem) ⊕ (Int32 × Mem)) :=
  (if (4 : Int32) ≤ v3 then some (.inl (m)) else gd (kd v0 == 5) (b2 (f_X5_merit N v0 v3 v1 m) (fun r_2 m_2 => b2 (f_X5_merit N v0 v3 v2 m_2) (fun r_3 m_3 => (if r_2 = r_3 then rc v0 v1 v2 (v3 + (1 : Int32)) m_3 else some (.inr ((v3, m_3))))))))
def L_X5_separation_2 (N : Nat) : Nat → Nat → Int32 → Int32 → Int32 → Mem → Option ((Mem) ⊕ (Int32 × Mem))
  | 0 => fun _ _ _ _ _ => none
  | n + 1 => T_X5_separation_2 N (L_X5_separation_2 N n)
def f_X5_separation (N : Nat) (v0 : Nat) (v1 : Int32) (v2 : Int32) (m : Mem) : Option (Int32 × Mem) :=
  (L_X5_separation_2 N N v0 v1 v2 (0 : Int32) m).bind (fun x9 => match x9 with | .inl (m_6) => some ((4 : Int32), m_6) | .inr ((v3_6, m_6)) => some (v3_6, m_6))
def f_X5_isBefore (N : Nat) (v0 : Nat) (v1 : Int32) (v2 : Int32) (m : Mem) : Option (Int32 × Mem) :=
  gd (kd v0 == 5) (b2 (f_X5_separation N v0 v1 v2 m) (fun r_2 m_2 => b2 (f_X5_merit N v0 r_2 v1 m_2) (fun r_3 m_3 => b2 (f_X5_merit N v0 r_2 v2 m_3) (fun r_4 m_4 => (if r_3 ≤ r_4 then gd (isB (0 : Int32)) (some ((0 : Int32), m_4)) else gd (isB (1 : Int32)) (some ((1 : Int32), m_4)))))))
def T_X5_insert_5 (N : Nat) (rc : Nat → Int32 → Int32 → Mem → Option (Nat × Int32 × Int32 × Mem)) (v0 : Nat) (v1 : Int32) (v2 : Int32) (m : Mem) : Option (Nat × Int32 × Int32 × Mem) :=
  (if v2 ≤ 0 then some ((v0, v1, v2, m)) else gd (kd v0 == 5) (gd (okA 12 (gR m v0 8) (v2 - (1 : Int32))) (b2 (f_X5_isBefore N v0 v1 (gI m (gR m v0 8) (v2 - (1 : Int32)).toNatClampNeg) m) (fun r_4 m_4 => (if r_4 = 0 then some ((v0, v1, v2, m_4)) else gd (okA 12 (gR m_4 v0 8) (v2 - (1 : Int32))) (gd (okA 12 (gR m_4 v0 8) v2) (wr (sI m_4 (gR m_4 v0 8) v2.toNatClampNeg (gI m_4 (gR m_4 v0 8) (v2 - (1 : Int32)).toNatClampNeg)) (fun m_7 => rc v0 v1 (v2 + (-1 : Int32)) m_7))))))))
def L_X5_insert_5 (N : Nat) : Nat → Nat → Int32 → Int32 → Mem → Option (Nat × Int32 × Int32 × Mem)
  | 0 => fun _ _ _ _ => none
  | n + 1 => T_X5_insert_5 N (L_X5_insert_5 N n)
def B_X5_insert_45 (N : Nat) (v0 : Nat) (v1 : Int32) (v2 : Int32) (m : Mem) : Option (Mem) :=
  gd (kd v0 == 5) (gd (okA 12 (gR m v0 8) v2) (wr (sI m (gR m v0 8) v2.toNatClampNeg v1) (fun m_13 => wr (sI m_13 v0 9 ((gI m_13 v0 9) + (1 : Int32))) (fun m_14 => some (m_14)))))
def f_X5_insert (N : Nat) (v0 : Nat) (v1 : Int32) (m : Mem) : Option (Mem) :=
  gd (kd v0 == 5) (l4 (L_X5_insert_5 N N v0 v1 (gI m v0 9) m) (fun v0_10 v1_10 v2_10 m_10 => B_X5_insert_45 N v0_10 v1_10 v2_10 m_10))
def f_X5_isRanked (N : Nat) (v0 : Nat) (v1 : Int32) (m : Mem) : Option (Int32 × Mem) :=
  gd (kd v0 == 5) (gd (okA 12 (gR m v0 3) v1) ((if (gI m (gR m v0 3) v1.toNatClampNeg) ≤ 0 then gd (isB (0 : Int32)) (some ((0 : Int32), m)) else gd (isB (1 : Int32)) (some ((1 : Int32), m)))))
def f_J9_floorDiv_7cf53 (N : Nat) (v0 : Int32) (v1 : Int32) (m : Mem) : Option (Int32 × Mem) :=
  gd (!(v1 == 0)) ((if 0 ≤ (v0 ^^^ v1) then some (v0 / v1, m) else (if ((v0 / v1) * v1) = v0 then some (v0 / v1, m) else some ((v0 / v1) - (1 : Int32), m))))
def f_X5_adjustedScore (N : Nat) (v0 : Nat) (v1 : Int32) (v2 : Int32) (m : Mem) : Option (Int32 × Mem) :=
  gd (kd v0 == 5) (gd (okA 12 (gR m v0 0) v1) (gd (okA 12 (gR m v0 2) v1) ((if (gI m (gR m v0 2) v1.toNatClampNeg) = 0 then some ((50000 : Int32), m) else gd (okA 12 (gR m v0 1) v1) (b2 (f_J9_floorDiv_7cf53 N (((20000 : Int32) * (gI m (gR m v0 0) v1.toNatClampNeg)) * (((gI m (gR m v0 0) v1.toNatClampNeg) * v2) - (gI m (gR m v0 1) v1.toNatClampNeg))) (gI m (gR m v0 2) v1.toNatClampNeg) m) (fun r_5 m_5 => some ((50000 : Int32) + r_5, m_5)))))))
def f_X7_scoreAt (N : Nat) (v0 : Nat) (v1 : Int32) (v2 : Int32) (m : Mem) : Option (Int32 × Mem) :=
  gd (kd v0 == 7) (b2 (f_X9_cell N v1 v2 m) (fun r_2 m_2 => gd (okA 12 (gR m v0 0) r_2) (some (gI m_2 (gR m v0 0) r_2.toNatClampNeg, m_2))))
def f_X7_hasScore (N : Nat) (v0 : Nat) (v1 : Int32) (v2 : Int32) (m : Mem) : Option (Int32 × Mem) :=
  gd (kd v0 == 7) (b2 (f_X7_scoreAt N v0 v1 v2 m) (fun r_2 m_2 => (if r_2 ≤ 0 then gd (isB (0 : Int32)) (some ((0 : Int32), m_2)) else gd (isB (1 : Int32)) (some ((1 : Int32), m_2)))))
def B_X5_measureProposal_80 (N : Nat) (rc : Nat → Nat → Int32 → Int32 → Int32 → Int32 → Int32 → Int32 → Mem → Option (Nat × Int32 × Int32 × Int32 × Int32 × Int32 × Mem)) (v0 : Nat) (v1 : Nat) (v2 : Int32) (v3 : Int32) (v4 : Int32) (v5 : Int32) (v7 : Int32) (s0 : Int32) (s1 : Int32) (m : Mem) : Option (Nat × Int32 × Int32 × Int32 × Int32 × Int32 × Mem) :=
  rc v0 v1 v2 v3 v4 v5 (s1 + s0) (v7 + (1 : Int32)) m
def T_X5_measureProposal_15 (N : Nat) (rc : Nat → Nat → Int32 → Int32 → Int32 → Int32 → Int32 → Int32 → Mem → Option (Nat × Int32 × Int32 × Int32 × Int32 × Int32 × Mem)) (v0 : Nat) (v1 : Nat) (v2 : Int32) (v3 : Int32) (v4 : Int32) (v5 : Int32) (v6 : Int32) (v7 : Int32) (m : Mem) : Option (Nat × Int32 × Int32 × Int32 × Int32 × Int32 × Mem) :=
  (if (12 : Int32) ≤ v7 then some ((v0, v2, v3, v4, v5, v6, m)) else gd (kd v1 == 7) (b2 (f_X7_hasScore N v1 v7 v2 m) (fun r_2 m_2 => (if r_2 = 0 then rc v0 v1 v2 v3 v4 v5 v6 (v7 + (1 : Int32)) m_2 else b2 (f_X7_scoreAt N v1 v7 v2 m_2) (fun r_3 m_3 => gd (kd v0 == 5) (b2 (f_X5_adjustedScore N v0 v7 r_3 m_3) (fun r_5 m_5 => (if r_3 < (80 : Int32) then B_X5_measureProposal_80 N rc v0 v1 v2 (v3 + (1 : Int32)) (v4 + r_5) (if r_3 < v5 then r_3 else v5) v7 (0 : Int32) v6 m_5 else B_X5_measureProposal_80 N rc v0 v1 v2 (v3 + (1 : Int32)) (v4 + r_5) (if r_3 < v5 then r_3 else v5) v7 (1 : Int32) v6 m_5))))))))
def L_X5_measureProposal_15 (N : Nat) : Nat → Nat → Nat → Int32 → Int32 → Int32 → Int32 → Int32 → Int32 → Mem → Option (Nat × Int32 × Int32 × Int32 × Int32 × Int32 × Mem)
  | 0 => fun _ _ _ _ _ _ _ _ _ => none
  | n + 1 => T_X5_measureProposal_15 N (L_X5_measureProposal_15 N n)
def B_X5_measureProposal_115 (N : Nat) (v0 : Nat) (v2 : Int32) (v5 : Int32) (v6 : Int32) (s0 : Int32) (s1 : Int32) (s2 : Nat) (m : Mem) : Option (Mem) :=
  gd (okA 12 s2 s1) (wr (sI m s2 s1.toNatClampNeg s0) (fun m_15 => gd (kd v0 == 5) (gd (okA 12 (gR m_15 v0 5) v2) (wr (sI m_15 (gR m_15 v0 5) v2.toNatClampNeg v5) (fun m_18 => gd (okA 12 (gR m_18 v0 6) v2) (wr (sI m_18 (gR m_18 v0 6) v2.toNatClampNeg v6) (fun m_20 => some (m_20))))))))
def f_X5_measureProposal (N : Nat) (v0 : Nat) (v1 : Nat) (v2 : Int32) (m : Mem) : Option (Mem) :=
  l7 (L_X5_measureProposal_15 N N v0 v1 v2 (0 : Int32) (0 : Int32) (100 : Int32) (0 : Int32) (0 : Int32) m) (fun v0_9 v2_9 v3_9 v4_9 v5_9 v6_9 m_9 => gd (kd v0_9 == 5) (gd (okA 12 (gR m_9 v0_9 3) v2_9) (wr (sI m_9 (gR m_9 v0_9 3) v2_9.toNatClampNeg v3_9) (fun m_12 => (if v3_9 = 0 then B_X5_measureProposal_115 N v0_9 v2_9 v5_9 v6_9 (0 : Int32) v2_9 (gR m_12 v0_9 4) m_12 else b2 (f_J9_floorDiv_7cf53 N v4_9 v3_9 m_12) (fun r_13 m_13 => B_X5_measureProposal_115 N v0_9 v2_9 v5_9 v6_9 r_13 v2_9 (gR m_12 v0_9 4) m_13))))))
def T_X5_measureReviewer_8 (N : Nat) (rc : Nat → Nat → Int32 → Int32 → Int32 → Int32 → Mem → Option (Nat × Nat × Int32 × Int32 × Int32 × Mem)) (v0 : Nat) (v1 : Nat) (v2 : Int32) (v3 : Int32) (v4 : Int32) (v5 : Int32) (m : Mem) : Option (Nat × Nat × Int32 × Int32 × Int32 × Mem) :=
  (if (16 : Int32) ≤ v5 then some ((v0, v1, v2, v3, v4, m)) else gd (kd v1 == 7) (b2 (f_X7_hasScore N v1 v2 v5 m) (fun r_2 m_2 => (if r_2 = 0 then rc v0 v1 v2 v3 v4 (v5 + (1 : Int32)) m_2 else b2 (f_X7_scoreAt N v1 v2 v5 m_2) (fun r_3 m_3 => rc v0 v1 v2 (v3 + (1 : Int32)) (v4 + r_3) (v5 + (1 : Int32)) m_3)))))
def L_X5_measureReviewer_8 (N : Nat) : Nat → Nat → Nat → Int32 → Int32 → Int32 → Int32 → Mem → Option (Nat × Nat × Int32 × Int32 × Int32 × Mem)
  | 0 => fun _ _ _ _ _ _ _ => none
  | n + 1 => T_X5_measureReviewer_8 N (L_X5_measureReviewer_8 N n)
def T_X5_measureReviewer_52 (N : Nat) (rc : Nat → Nat → Int32 → Int32 → Int32 → Int32 → Int32 → Mem → Option (Nat × Int32 × Int32 × Int32 × Int32 × Mem)) (v0 : Nat) (v1 : Nat) (v2 : Int32) (v3 : Int32) (v4 : Int32) (v5 : Int32) (v6 : Int32) (m : Mem) : Option (Nat × Int32 × Int32 × Int32 × Int32 × Mem) :=
  (if (16 : Int32) ≤ v6 then some ((v0, v2, v3, v4, v5, m)) else gd (kd v1 == 7) (b2 (f_X7_hasScore N v1 v2 v6 m) (fun r_8 m_8 => (if r_8 = 0 then rc v0 v1 v2 v3 v4 v5 (v6 + (1 : Int32)) m_8 else b2 (f_X7_scoreAt N v1 v2 v6 m_8) (fun r_9 m_9 => rc v0 v1 v2 v3 v4 (v5 + (if 0 ≤ ((v3 * r_9) - v4) then ((v3 * r_9) - v4) else 0 - ((v3 * r_9) - v4))) (v6 + (1 : Int32)) m_9)))))
def L_X5_measureReviewer_52 (N : Nat) : Nat → Nat → Nat → Int32 → Int32 → Int32 → Int32 → Int32 → Mem → Option (Nat × Int32 × Int32 × Int32 × Int32 × Mem)
  | 0 => fun _ _ _ _ _ _ _ _ => none
  | n + 1 => T_X5_measureReviewer_52 N (L_X5_measureReviewer_52 N n)
def f_X5_measureReviewer (N : Nat) (v0 : Nat) (v1 : Nat) (v2 : Int32) (m : Mem) : Option (Mem) :=
  l6 (L_X5_measureReviewer_8 N N v0 v1 v2 (0 : Int32) (0 : Int32) (0 : Int32) m) (fun v0_6 v1_6 v2_6 v3_6 v4_6 m_6 => l6 (L_X5_measureReviewer_52 N N v0_6 v1_6 v2_6 v3_6 v4_6 (0 : Int32) (0 : Int32) m_6) (fun v0_12 v2_12 v3_12 v4_12 v5_12 m_12 => gd (kd v0_12 == 5) (gd (okA 12 (gR m_12 v0_12 0) v2_12) (wr (sI m_12 (gR m_12 v0_12 0) v2_12.toNatClampNeg v3_12) (fun m_15 => gd (okA 12 (gR m_15 v0_12 1) v2_12) (wr (sI m_15 (gR m_15 v0_12 1) v2_12.toNatClampNeg v4_12) (fun m_17 => gd (okA 12 (gR m_17 v0_12 2) v2_12) (wr (sI m_17 (gR m_17 v0_12 2) v2_12.toNatClampNeg v5_12) (fun m_19 => some (m_19))))))))))
def T_X5_update_2 (N : Nat) (rc : Nat → Nat → Nat → Int32 → Mem → Option (Nat × Nat × Nat × Mem)) (v0 : Nat) (v1 : Nat) (v2 : Nat) (v3 : Int32) (m : Mem) : Option (Nat × Nat × Nat × Mem) :=
  gd (kd v1 == 6) ((if (gI m v1 1) ≤ v3 then some ((v0, v1, v2, m)) else gd (kd v0 == 5) (b1 (f_X5_measureReviewer N v0 v2 v3 m) (fun m_3 => rc v0 v1 v2 (v3 + (1 : Int32)) m_3))))
def L_X5_update_2 (N : Nat) : Nat → Nat → Nat → Nat → Int32 → Mem → Option (Nat × Nat × Nat × Mem)
  | 0 => fun _ _ _ _ _ => none
  | n + 1 => T_X5_update_2 N (L_X5_update_2 N n)
def T_X5_update_29 (N : Nat) (rc : Nat → Nat → Nat → Int32 → Mem → Option (Mem)) (v0 : Nat) (v1 : Nat) (v2 : Nat) (v3 : Int32) (m : Mem) : Option (Mem) :=
  gd (kd v1 == 6) ((if (gI m v1 2) ≤ v3 then some (m) else gd (kd v0 == 5) (gd (okA 12 (gR m v1 12) v3) (gd (okA 12 (gR m v0 7) v3) (wr (sI m (gR m v0 7) v3.toNatClampNeg (gI m (gR m v1 12) v3.toNatClampNeg)) (fun m_12 => b1 (f_X5_measureProposal N v0 v2 v3 m_12) (fun m_13 => b2 (f_X5_isRanked N v0 v3 m_13) (fun r_14 m_14 => (if r_14 = 0 then rc v0 v1 v2 (v3 + (1 : Int32)) m_14 else b1 (f_X5_insert N v0 v3 m_14) (fun m_15 => rc v0 v1 v2 (v3 + (1 : Int32)) m_15))))))))))
def L_X5_update_29 (N : Nat) : Nat → Nat → Nat → Nat → Int32 → Mem → Option (Mem)
  | 0 => fun _ _ _ _ _ => none
  | n + 1 => T_X5_update_29 N (L_X5_update_29 N n)
def f_X5_update (N : Nat) (v0 : Nat) (v1 : Nat) (v2 : Nat) (m : Mem) : Option (Mem) :=
  l4 (L_X5_update_2 N N v0 v1 v2 (0 : Int32) m) (fun v0_5 v1_5 v2_5 m_5 => gd (kd v0_5 == 5) (wr (sI m_5 v0_5 9 (0 : Int32)) (fun m_7 => l1 (L_X5_update_29 N N v0_5 v1_5 v2_5 (0 : Int32) m_7) (fun  m_18 => some (m_18)))))
def f_X6_clear (N : Nat) (v0 : Nat) (m : Mem) : Option (Mem) :=
  gd (kd v0 == 6) (wr (sI m v0 0 (0 : Int32)) (fun m_2 => wr (sI m_2 v0 1 (0 : Int32)) (fun m_3 => wr (sI m_3 v0 2 (0 : Int32)) (fun m_4 => b1 (f_J7_fill_53178 N (gR m_4 v0 8) (0 : Int32) m_4) (fun m_5 => wr (sI m_5 v0 14 (2 : Int32)) (fun m_6 => wr (sI m_6 v0 15 (20 : Int32)) (fun m_7 => wr (sI m_7 v0 16 (0 : Int32)) (fun m_8 => wr (sI m_8 v0 17 (0 : Int32)) (fun m_9 => some (m_9))))))))))
def f_X7_restart (N : Nat) (v0 : Nat) (v1 : Nat) (m : Mem) : Option (Mem) :=
  gd (kd v0 == 7) (b1 (f_J7_fill_53178 N (gR m v0 0) (0 : Int32) m) (fun m_2 => gd (kd v1 == 6) (gd (okC (gR m_2 v1 8) (gR m_2 v0 1) (0 : Int32) (0 : Int32) (12 : Int32)) (wr (cpI m_2 (gR m_2 v1 8) (0 : Int32).toNatClampNeg (gR m_2 v0 1) (0 : Int32).toNatClampNeg (12 : Int32).toNatClampNeg) (fun m_5 => wr (sI m_5 v0 2 (0 : Int32)) (fun m_6 => wr (sI m_6 v0 3 (gI m_6 v1 16)) (fun m_7 => some (m_7))))))))
def f_X7_put (N : Nat) (v0 : Nat) (v1 : Int32) (v2 : Int32) (v3 : Int32) (m : Mem) : Option (Mem) :=
  gd (kd v0 == 7) (b2 (f_X9_cell N v1 v2 m) (fun r_2 m_2 => gd (okA 12 (gR m v0 0) r_2) (wr (sI m_2 (gR m v0 0) r_2.toNatClampNeg v3) (fun m_4 => some (m_4)))))
def f_X7_hasReview (N : Nat) (v0 : Nat) (v1 : Int32) (v2 : Int32) (m : Mem) : Option (Int32 × Mem) :=
  gd (kd v0 == 7) (b2 (f_X7_scoreAt N v0 v1 v2 m) (fun r_2 m_2 => (if r_2 = 0 then gd (isB (0 : Int32)) (some ((0 : Int32), m_2)) else gd (isB (1 : Int32)) (some ((1 : Int32), m_2)))))
def f_X7_addConflict (N : Nat) (v0 : Nat) (v1 : Int32) (v2 : Int32) (m : Mem) : Option (Mem) :=
  gd (kd v0 == 7) (gd (okA 12 (gR m v0 1) v1) (wr (sI m (gR m v0 1) v1.toNatClampNeg ((gI m (gR m v0 1) v1.toNatClampNeg) ||| ((1 : Int32) <<< (v2 &&& 31)))) (fun m_3 => some (m_3))))
def f_X7_isGranted (N : Nat) (v0 : Nat) (v1 : Int32) (m : Mem) : Option (Int32 × Mem) :=
  gd (kd v0 == 7) ((if (((gI m v0 2) >>> (v1 &&& 31)) &&& (1 : Int32)) = 0 then gd (isB (0 : Int32)) (some ((0 : Int32), m)) else gd (isB (1 : Int32)) (some ((1 : Int32), m))))
def f_X7_grantAppeal (N : Nat) (v0 : Nat) (v1 : Int32) (m : Mem) : Option (Mem) :=
  gd (kd v0 == 7) (wr (sI m v0 2 ((gI m v0 2) ||| ((1 : Int32) <<< (v1 &&& 31)))) (fun m_2 => some (m_2)))
def T_X7_reviewsOfReviewer_4 (N : Nat) (rc : Nat → Int32 → Int32 → Int32 → Mem → Option (Int32 × Mem)) (v0 : Nat) (v1 : Int32) (v2 : Int32) (v3 : Int32) (m : Mem) : Option (Int32 × Mem) :=
  (if (16 : Int32) ≤ v3 then some ((v2, m)) else gd (kd v0 == 7) (b2 (f_X7_hasReview N v0 v1 v3 m) (fun r_2 m_2 => (if r_2 = 0 then rc v0 v1 v2 (v3 + (1 : Int32)) m_2 else rc v0 v1 (v2 + (1 : Int32)) (v3 + (1 : Int32)) m_2))))
def L_X7_reviewsOfReviewer_4 (N : Nat) : Nat → Nat → Int32 → Int32 → Int32 → Mem → Option (Int32 × Mem)
  | 0 => fun _ _ _ _ _ => none
  | n + 1 => T_X7_reviewsOfReviewer_4 N (L_X7_reviewsOfReviewer_4 N n)
def f_X7_reviewsOfReviewer (N : Nat) (v0 : Nat) (v1 : Int32) (m : Mem) : Option (Int32 × Mem) :=
  l2 (L_X7_reviewsOfReviewer_4 N N v0 v1 (0 : Int32) (0 : Int32) m) (fun v2_5 m_5 => some (v2_5, m_5))
def T_X7_reviewsOfProposal_4 (N : Nat) (rc : Nat → Int32 → Int32 → Int32 → Mem → Option (Int32 × Mem)) (v0 : Nat) (v1 : Int32) (v2 : Int32) (v3 : Int32) (m : Mem) : Option (Int32 × Mem) :=
  (if (12 : Int32) ≤ v3 then some ((v2, m)) else gd (kd v0 == 7) (b2 (f_X7_hasReview N v0 v3 v1 m) (fun r_2 m_2 => (if r_2 = 0 then rc v0 v1 v2 (v3 + (1 : Int32)) m_2 else rc v0 v1 (v2 + (1 : Int32)) (v3 + (1 : Int32)) m_2))))
def L_X7_reviewsOfProposal_4 (N : Nat) : Nat → Nat → Int32 → Int32 → Int32 → Mem → Option (Int32 × Mem)
  | 0 => fun _ _ _ _ _ => none
  | n + 1 => T_X7_reviewsOfProposal_4 N (L_X7_reviewsOfProposal_4 N n)
def f_X7_reviewsOfProposal (N : Nat) (v0 : Nat) (v1 : Int32) (m : Mem) : Option (Int32 × Mem) :=
  l2 (L_X7_reviewsOfProposal_4 N N v0 v1 (0 : Int32) (0 : Int32) m) (fun v2_5 m_5 => some (v2_5, m_5))
def T_X7_countReviews_13 (N : Nat) (rc : Int32 → Nat → Int32 → Int32 → Mem → Option (Int32 × Mem)) (v1 : Int32) (v2 : Nat) (v3 : Int32) (v4 : Int32) (m : Mem) : Option (Int32 × Mem) :=
  (if v3 ≤ v4 then some ((v1, m)) else gd (okA 12 v2 v4) ((if (gI m v2 v4.toNatClampNeg) = 0 then rc v1 v2 v3 (v4 + (1 : Int32)) m else rc (v1 + (1 : Int32)) v2 v3 (v4 + (1 : Int32)) m)))
def L_X7_countReviews_13 (N : Nat) : Nat → Int32 → Nat → Int32 → Int32 → Mem → Option (Int32 × Mem)
  | 0 => fun _ _ _ _ _ => none
  | n + 1 => T_X7_countReviews_13 N (L_X7_countReviews_13 N n)
def f_X7_countReviews (N : Nat) (v0 : Nat) (m : Mem) : Option (Int32 × Mem) :=
  gd (kd v0 == 7) (gd (kd (gR m v0 0) == 12) (l2 (L_X7_countReviews_13 N N (0 : Int32) (gR m v0 0) (Int32.ofNat (ln (gR m v0 0))) (0 : Int32) m) (fun v1_6 m_6 => some (v1_6, m_6))))
def T_X7_countScores_13 (N : Nat) (rc : Int32 → Nat → Int32 → Int32 → Mem → Option (Int32 × Mem)) (v1 : Int32) (v2 : Nat) (v3 : Int32) (v4 : Int32) (m : Mem) : Option (Int32 × Mem) :=
  (if v3 ≤ v4 then some ((v1, m)) else gd (okA 12 v2 v4) ((if (gI m v2 v4.toNatClampNeg) ≤ 0 then rc v1 v2 v3 (v4 + (1 : Int32)) m else rc (v1 + (1 : Int32)) v2 v3 (v4 + (1 : Int32)) m)))
def L_X7_countScores_13 (N : Nat) : Nat → Int32 → Nat → Int32 → Int32 → Mem → Option (Int32 × Mem)
  | 0 => fun _ _ _ _ _ => none
  | n + 1 => T_X7_countScores_13 N (L_X7_countScores_13 N n)
def f_X7_countScores (N : Nat) (v0 : Nat) (m : Mem) : Option (Int32 × Mem) :=
  gd (kd v0 == 7) (gd (kd (gR m v0 0) == 12) (l2 (L_X7_countScores_13 N N (0 : Int32) (gR m v0 0) (Int32.ofNat (ln (gR m v0 0))) (0 : Int32) m) (fun v1_6 m_6 => some (v1_6, m_6))))
def f_J6_bitCount_0f7a4 (N : Nat) (v0 : Int32) (m : Mem) : Option (Int32 × Mem) :=
  some ((((((((v0 - ((iushr v0 (1 : Int32)) &&& (1431655765 : Int32))) &&& (858993459 : Int32)) + ((iushr (v0 - ((iushr v0 (1 : Int32)) &&& (1431655765 : Int32))) (2 : Int32)) &&& (858993459 : Int32))) + (iushr (((v0 - ((iushr v0 (1 : Int32)) &&& (1431655765 : Int32))) &&& (858993459 : Int32)) + ((iushr (v0 - ((iushr v0 (1 : Int32)) &&& (1431655765 : Int32))) (2 : Int32)) &&& (858993459 : Int32))) (4 : Int32))) &&& (252645135 : Int32)) + (iushr (((((v0 - ((iushr v0 (1 : Int32)) &&& (1431655765 : Int32))) &&& (858993459 : Int32)) + ((iushr (v0 - ((iushr v0 (1 : Int32)) &&& (1431655765 : Int32))) (2 : Int32)) &&& (858993459 : Int32))) + (iushr (((v0 - ((iushr v0 (1 : Int32)) &&& (1431655765 : Int32))) &&& (858993459 : Int32)) + ((iushr (v0 - ((iushr v0 (1 : Int32)) &&& (1431655765 : Int32))) (2 : Int32)) &&& (858993459 : Int32))) (4 : Int32))) &&& (252645135 : Int32)) (8 : Int32))) + (iushr ((((((v0 - ((iushr v0 (1 : Int32)) &&& (1431655765 : Int32))) &&& (858993459 : Int32)) + ((iushr (v0 - ((iushr v0 (1 : Int32)) &&& (1431655765 : Int32))) (2 : Int32)) &&& (858993459 : Int32))) + (iushr (((v0 - ((iushr v0 (1 : Int32)) &&& (1431655765 : Int32))) &&& (858993459 : Int32)) + ((iushr (v0 - ((iushr v0 (1 : Int32)) &&& (1431655765 : Int32))) (2 : Int32)) &&& (858993459 : Int32))) (4 : Int32))) &&& (252645135 : Int32)) + (iushr (((((v0 - ((iushr v0 (1 : Int32)) &&& (1431655765 : Int32))) &&& (858993459 : Int32)) + ((iushr (v0 - ((iushr v0 (1 : Int32)) &&& (1431655765 : Int32))) (2 : Int32)) &&& (858993459 : Int32))) + (iushr (((v0 - ((iushr v0 (1 : Int32)) &&& (1431655765 : Int32))) &&& (858993459 : Int32)) + ((iushr (v0 - ((iushr v0 (1 : Int32)) &&& (1431655765 : Int32))) (2 : Int32)) &&& (858993459 : Int32))) (4 : Int32))) &&& (252645135 : Int32)) (8 : Int32))) (16 : Int32))) &&& (63 : Int32), m)
def T_X7_countDeclared_13 (N : Nat) (rc : Int32 → Nat → Int32 → Int32 → Mem → Option (Int32 × Mem)) (v1 : Int32) (v2 : Nat) (v3 : Int32) (v4 : Int32) (m : Mem) : Option (Int32 × Mem) :=
  (if v3 ≤ v4 then some ((v1, m)) else gd (okA 12 v2 v4) (b2 (f_J6_bitCount_0f7a4 N (gI m v2 v4.toNatClampNeg) m) (fun r_4 m_4 => rc (v1 + r_4) v2 v3 (v4 + (1 : Int32)) m_4)))
def L_X7_countDeclared_13 (N : Nat) : Nat → Int32 → Nat → Int32 → Int32 → Mem → Option (Int32 × Mem)
  | 0 => fun _ _ _ _ _ => none
  | n + 1 => T_X7_countDeclared_13 N (L_X7_countDeclared_13 N n)
def f_X7_countDeclared (N : Nat) (v0 : Nat) (m : Mem) : Option (Int32 × Mem) :=
  gd (kd v0 == 7) (gd (kd (gR m v0 1) == 12) (l2 (L_X7_countDeclared_13 N N (0 : Int32) (gR m v0 1) (Int32.ofNat (ln (gR m v0 1))) (0 : Int32) m) (fun v1_6 m_6 => some (v1_6, m_6))))
def T_X8_put_3 (N : Nat) (rc : Nat → Int32 → Int32 → Mem → Option (Mem)) (v0 : Nat) (v1 : Int32) (v2 : Int32) (m : Mem) : Option (Mem) :=
  (if v2 < 0 then some (m) else gd (kd v0 == 8) ((if (800 : Int32) ≤ (gI m v0 1) then some (m) else gd (okA 11 (gR m v0 0) (gI m v0 1)) (wr (sI m (gR m v0 0) (gI m v0 1).toNatClampNeg (vp_nar .byte ((v1 >>> (v2 &&& 31)).toInt8.toInt32))) (fun m_3 => wr (sI m_3 v0 1 ((gI m_3 v0 1) + (1 : Int32))) (fun m_4 => rc v0 v1 (v2 + (-8 : Int32)) m_4))))))
def L_X8_put_3 (N : Nat) : Nat → Nat → Int32 → Int32 → Mem → Option (Mem)
  | 0 => fun _ _ _ _ => none
  | n + 1 => T_X8_put_3 N (L_X8_put_3 N n)
def f_X8_put (N : Nat) (v0 : Nat) (v1 : Int32) (m : Mem) : Option (Mem) :=
  l1 (L_X8_put_3 N N v0 v1 (24 : Int32) m) (fun  m_7 => some (m_7))
def T_X8_evaluate_30 (N : Nat) (rc : Nat → Int32 → Mem → Option (Mem)) (v0 : Nat) (v1 : Int32) (m : Mem) : Option (Mem) :=
  gd (kd v0 == 8) ((if (gI m v0 6) ≤ v1 then some (m) else gd (okA 11 (gR m v0 0) v1) (wr (sI m v0 7 ((((10 : Int32) * (gI m v0 7)) + (gI m (gR m v0 0) v1.toNatClampNeg)) - (48 : Int32))) (fun m_5 => rc v0 (v1 + (1 : Int32)) m_5))))
def L_X8_evaluate_30 (N : Nat) : Nat → Nat → Int32 → Mem → Option (Mem)
  | 0 => fun _ _ _ => none
  | n + 1 => T_X8_evaluate_30 N (L_X8_evaluate_30 N n)
def f_X8_evaluate (N : Nat) (v0 : Nat) (m : Mem) : Option (Mem) :=
  gd (kd v0 == 8) ((if ((gI m v0 6) - (gI m v0 5)) ≤ (6 : Int32) then wr (sI m v0 7 (0 : Int32)) (fun m_2 => l1 (L_X8_evaluate_30 N N v0 (gI m_2 v0 5) m_2) (fun  m_7 => some (m_7))) else wr (sI m v0 4 (5 : Int32)) (fun m_8 => some (m_8))))
def B_X8_kindOf_42 (N : Nat) (v0 : Int32) (m : Mem) : Option (Int32 × Mem) :=
  (if v0 = (59 : Int32) then some ((4 : Int32), m) else some ((5 : Int32), m))
def B_X8_kindOf_28 (N : Nat) (v0 : Int32) (m : Mem) : Option (Int32 × Mem) :=
  (if v0 < (48 : Int32) then B_X8_kindOf_42 N v0 m else (if (57 : Int32) < v0 then B_X8_kindOf_42 N v0 m else some ((3 : Int32), m)))
def f_X8_kindOf (N : Nat) (v0 : Int32) (m : Mem) : Option (Int32 × Mem) :=
  (if v0 = (10 : Int32) then some ((1 : Int32), m) else (if v0 = (32 : Int32) then some ((1 : Int32), m) else (if v0 < (97 : Int32) then B_X8_kindOf_28 N v0 m else (if (122 : Int32) < v0 then B_X8_kindOf_28 N v0 m else some ((2 : Int32), m)))))
def T_X8_nextToken_0 (N : Nat) (rc : Nat → Mem → Option (Nat × Mem)) (v0 : Nat) (m : Mem) : Option (Nat × Mem) :=
  gd (kd v0 == 8) ((if (gI m v0 1) ≤ (gI m v0 6) then some ((v0, m)) else gd (okA 11 (gR m v0 0) (gI m v0 6)) (b2 (f_X8_kindOf N (gI m (gR m v0 0) (gI m v0 6).toNatClampNeg) m) (fun r_3 m_3 => (if r_3 = (1 : Int32) then wr (sI m_3 v0 6 ((gI m_3 v0 6) + (1 : Int32))) (fun m_4 => rc v0 m_4) else some ((v0, m_3)))))))
def L_X8_nextToken_0 (N : Nat) : Nat → Nat → Mem → Option (Nat × Mem)
  | 0 => fun _ _ => none
  | n + 1 => T_X8_nextToken_0 N (L_X8_nextToken_0 N n)
def T_X8_nextToken_116 (N : Nat) (rc : Nat → Mem → Option (Nat × Mem)) (v0 : Nat) (m : Mem) : Option (Nat × Mem) :=
  gd (kd v0 == 8) ((if (gI m v0 1) ≤ (gI m v0 6) then some ((v0, m)) else gd (okA 11 (gR m v0 0) (gI m v0 6)) (b2 (f_X8_kindOf N (gI m (gR m v0 0) (gI m v0 6).toNatClampNeg) m) (fun r_15 m_15 => (if r_15 = (gI m_15 v0 4) then wr (sI m_15 v0 6 ((gI m_15 v0 6) + (1 : Int32))) (fun m_16 => rc v0 m_16) else some ((v0, m_15)))))))
def L_X8_nextToken_116 (N : Nat) : Nat → Nat → Mem → Option (Nat × Mem)
  | 0 => fun _ _ => none
  | n + 1 => T_X8_nextToken_116 N (L_X8_nextToken_116 N n)
def B_X8_nextToken_159 (N : Nat) (v0 : Nat) (m : Mem) : Option (Mem) :=
  gd (kd v0 == 8) ((if (gI m v0 4) = (3 : Int32) then b1 (f_X8_evaluate N v0 m) (fun m_21 => some (m_21)) else some (m)))
def B_X8_nextToken_76 (N : Nat) (v0 : Nat) (s0 : Int32) (s1 : Nat) (m : Mem) : Option (Mem) :=
  gd (kd s1 == 8) (wr (sI m s1 4 s0) (fun m_11 => gd (kd v0 == 8) ((if (gI m_11 v0 4) = (4 : Int32) then wr (sI m_11 v0 6 ((gI m_11 v0 6) + (1 : Int32))) (fun m_26 => B_X8_nextToken_159 N v0 m_26) else (if (gI m_11 v0 4) = (2 : Int32) then l2 (L_X8_nextToken_116 N N v0 m_11) (fun v0_19 m_19 => B_X8_nextToken_159 N v0_19 m_19) else (if (gI m_11 v0 4) = (3 : Int32) then l2 (L_X8_nextToken_116 N N v0 m_11) (fun v0_23 m_23 => B_X8_nextToken_159 N v0_23 m_23) else B_X8_nextToken_159 N v0 m_11))))))
def B_X8_nextToken_40 (N : Nat) (v0 : Nat) (m : Mem) : Option (Mem) :=
  gd (kd v0 == 8) (wr (sI m v0 5 (gI m v0 6)) (fun m_9 => (if (gI m_9 v0 1) ≤ (gI m_9 v0 6) then B_X8_nextToken_76 N v0 (0 : Int32) v0 m_9 else gd (okA 11 (gR m_9 v0 0) (gI m_9 v0 6)) (b2 (f_X8_kindOf N (gI m_9 (gR m_9 v0 0) (gI m_9 v0 6).toNatClampNeg) m_9) (fun r_29 m_29 => B_X8_nextToken_76 N v0 r_29 v0 m_29)))))
def f_X8_nextToken (N : Nat) (v0 : Nat) (m : Mem) : Option (Mem) :=
  l2 (L_X8_nextToken_0 N N v0 m) (fun v0_7 m_7 => B_X8_nextToken_40 N v0_7 m_7)
def B_X8_fail_20 (N : Nat) (v0 : Nat) (m : Mem) : Option (Mem) :=
  gd (kd v0 == 8) (wr (sI m v0 4 (5 : Int32)) (fun m_3 => some (m_3)))
def f_X8_fail (N : Nat) (v0 : Nat) (v1 : Int32) (m : Mem) : Option (Mem) :=
  gd (kd v0 == 8) ((if (gI m v0 2) = 0 then wr (sI m v0 2 v1) (fun m_4 => wr (sI m_4 v0 3 (gI m_4 v0 5)) (fun m_5 => B_X8_fail_20 N v0 m_5)) else B_X8_fail_20 N v0 m))
def f_X8_readSemicolon (N : Nat) (v0 : Nat) (m : Mem) : Option (Mem) :=
  gd (kd v0 == 8) ((if (gI m v0 4) = (4 : Int32) then b1 (f_X8_nextToken N v0 m) (fun m_2 => some (m_2)) else b1 (f_X8_fail N v0 (1 : Int32) m) (fun m_3 => some (m_3))))
def T_X8_isWord_28 (N : Nat) (rc : Nat → Nat → Int32 → Mem → Option ((Mem) ⊕ (Mem))) (v0 : Nat) (v1 : Nat) (v2 : Int32) (m : Mem) : Option ((Mem) ⊕ (Mem)) :=
  gd (decide (v1 < nST)) ((if (strL v1) ≤ v2 then some (.inl (m)) else gd (kd v0 == 8) (gd (okA 11 (gR m v0 0) ((gI m v0 5) + v2)) (gd (okS v1 v2) ((if (gI m (gR m v0 0) ((gI m v0 5) + v2).toNatClampNeg) = (strC v1 v2) then rc v0 v1 (v2 + (1 : Int32)) m else some (.inr (m))))))))
def L_X8_isWord_28 (N : Nat) : Nat → Nat → Nat → Int32 → Mem → Option ((Mem) ⊕ (Mem))
  | 0 => fun _ _ _ _ => none
  | n + 1 => T_X8_isWord_28 N (L_X8_isWord_28 N n)
def f_X8_isWord (N : Nat) (v0 : Nat) (v1 : Nat) (m : Mem) : Option (Int32 × Mem) :=
  gd (kd v0 == 8) ((if (gI m v0 4) = (2 : Int32) then gd (decide (v1 < nST)) ((if ((gI m v0 6) - (gI m v0 5)) = (strL v1) then (L_X8_isWord_28 N N v0 v1 (0 : Int32) m).bind (fun x9 => match x9 with | .inl (m_10) => gd (isB (1 : Int32)) (some ((1 : Int32), m_10)) | .inr (m_10) => gd (isB (0 : Int32)) (some ((0 : Int32), m_10))) else gd (isB (0 : Int32)) (some ((0 : Int32), m)))) else gd (isB (0 : Int32)) (some ((0 : Int32), m))))
def B_X8_readNumber_31 (N : Nat) (v0 : Nat) (m : Mem) : Option (Int32 × Mem) :=
  gd (kd v0 == 8) (b1 (f_X8_fail N v0 (2 : Int32) m) (fun m_3 => some ((-1 : Int32), m_3)))
def f_X8_readNumber (N : Nat) (v0 : Nat) (v1 : Int32) (v2 : Int32) (m : Mem) : Option (Int32 × Mem) :=
  gd (kd v0 == 8) ((if (gI m v0 4) = (3 : Int32) then (if (gI m v0 7) < v1 then B_X8_readNumber_31 N v0 m else (if (gI m v0 7) ≤ v2 then b1 (f_X8_nextToken N v0 m) (fun m_4 => some (gI m v0 7, m_4)) else B_X8_readNumber_31 N v0 m)) else b1 (f_X8_fail N v0 (1 : Int32) m) (fun m_7 => some ((-1 : Int32), m_7))))
def f_X8_readConflict (N : Nat) (v0 : Nat) (v1 : Nat) (m : Mem) : Option (Mem) :=
  gd (kd v0 == 8) (b1 (f_X8_nextToken N v0 m) (fun m_2 => gd (kd v1 == 6) (b2 (f_X8_readNumber N v0 (0 : Int32) ((gI m_2 v1 1) - (1 : Int32)) m_2) (fun r_4 m_4 => b2 (f_X8_readNumber N v0 (0 : Int32) ((gI m_4 v1 2) - (1 : Int32)) m_4) (fun r_5 m_5 => (if r_4 = (-1 : Int32) then some (m_5) else (if r_5 = (-1 : Int32) then some (m_5) else gd (okA 12 (gR m_5 v1 8) r_4) (wr (sI m_5 (gR m_5 v1 8) r_4.toNatClampNeg ((gI m_5 (gR m_5 v1 8) r_4.toNatClampNeg) ||| ((1 : Int32) <<< (r_5 &&& 31)))) (fun m_7 => some (m_7))))))))))
def f_X8_readPanel (N : Nat) (v0 : Nat) (v1 : Nat) (m : Mem) : Option (Mem) :=
  gd (kd v1 == 6) ((if (gI m v1 0) < (4 : Int32) then gd (kd v0 == 8) (b1 (f_X8_nextToken N v0 m) (fun m_3 => b2 (f_X8_readNumber N v0 (0 : Int32) (100000 : Int32) m_3) (fun r_4 m_4 => gd (okA 12 (gR m_3 v1 3) (gI m v1 0)) (wr (sI m_4 (gR m_3 v1 3) (gI m v1 0).toNatClampNeg r_4) (fun m_6 => wr (sI m_6 v1 0 ((gI m v1 0) + (1 : Int32))) (fun m_7 => some (m_7))))))) else gd (kd v0 == 8) (b1 (f_X8_fail N v0 (3 : Int32) m) (fun m_9 => some (m_9)))))
def B_X8_readProposal_112 (N : Nat) (v1 : Nat) (v2 : Int32) (m : Mem) : Option (Mem) :=
  gd (kd v1 == 6) (wr (sI m v1 2 (v2 + (1 : Int32))) (fun m_20 => some (m_20)))
def f_X8_readProposal (N : Nat) (v0 : Nat) (v1 : Nat) (m : Mem) : Option (Mem) :=
  gd (kd v1 == 6) ((if (gI m v1 2) < (16 : Int32) then gd (kd v0 == 8) (b1 (f_X8_nextToken N v0 m) (fun m_3 => b2 (f_X8_readNumber N v0 (0 : Int32) ((gI m_3 v1 0) - (1 : Int32)) m_3) (fun r_4 m_4 => gd (okA 12 (gR m_3 v1 9) (gI m v1 2)) (wr (sI m_4 (gR m_3 v1 9) (gI m v1 2).toNatClampNeg r_4) (fun m_6 => b2 (f_X8_readNumber N v0 (0 : Int32) (9 : Int32) m_6) (fun r_7 m_7 => gd (okA 12 (gR m_6 v1 10) (gI m v1 2)) (wr (sI m_7 (gR m_6 v1 10) (gI m v1 2).toNatClampNeg r_7) (fun m_9 => b2 (f_X8_readNumber N v0 (0 : Int32) (7 : Int32) m_9) (fun r_10 m_10 => gd (okA 12 (gR m_9 v1 11) (gI m v1 2)) (wr (sI m_10 (gR m_9 v1 11) (gI m v1 2).toNatClampNeg r_10) (fun m_12 => b2 (f_X8_readNumber N v0 (1 : Int32) (9999 : Int32) m_12) (fun r_13 m_13 => gd (okA 12 (gR m_13 v1 12) (gI m v1 2)) (wr (sI m_13 (gR m_13 v1 12) (gI m v1 2).toNatClampNeg r_13) (fun m_15 => gd (okA 12 (gR m_15 v1 13) (gI m v1 2)) (wr (sI m_15 (gR m_15 v1 13) (gI m v1 2).toNatClampNeg r_13) (fun m_17 => b2 (f_X8_isWord N v0 4 m_17) (fun r_18 m_18 => (if r_18 = 0 then B_X8_readProposal_112 N v1 (gI m v1 2) m_18 else b1 (f_X8_nextToken N v0 m_18) (fun m_21 => b2 (f_X8_readNumber N v0 (1 : Int32) r_13 m_21) (fun r_22 m_22 => gd (okA 12 (gR m_21 v1 13) (gI m v1 2)) (wr (sI m_22 (gR m_21 v1 13) (gI m v1 2).toNatClampNeg r_22) (fun m_24 => B_X8_readProposal_112 N v1 (gI m v1 2) m_24)))))))))))))))))))))) else gd (kd v0 == 8) (b1 (f_X8_fail N v0 (3 : Int32) m) (fun m_27 => some (m_27)))))
def f_X8_readTopicsWord (N : Nat) (v0 : Nat) (m : Mem) : Option (Mem) :=
  gd (kd v0 == 8) (b2 (f_X8_isWord N v0 2 m) (fun r_2 m_2 => (if r_2 = 0 then b1 (f_X8_fail N v0 (1 : Int32) m_2) (fun m_4 => some (m_4)) else b1 (f_X8_nextToken N v0 m_2) (fun m_3 => some (m_3)))))
def B_X8_readReviewer_94 (N : Nat) (rc : Nat → Nat → Int32 → Int32 → Int32 → Mem → Option (Nat × Int32 × Int32 × Mem)) (v0 : Nat) (v1 : Nat) (v2 : Int32) (v3 : Int32) (v4 : Int32) (m : Mem) : Option (Nat × Int32 × Int32 × Mem) :=
  gd (kd v0 == 8) (b2 (f_X8_readNumber N v0 (0 : Int32) (7 : Int32) m) (fun r_15 m_15 => (if r_15 = (-1 : Int32) then rc v0 v1 v2 v3 (v4 + (1 : Int32)) m_15 else rc v0 v1 v2 (v3 ||| ((1 : Int32) <<< (r_15 &&& 31))) (v4 + (1 : Int32)) m_15)))
def T_X8_readReviewer_73 (N : Nat) (rc : Nat → Nat → Int32 → Int32 → Int32 → Mem → Option (Nat × Int32 × Int32 × Mem)) (v0 : Nat) (v1 : Nat) (v2 : Int32) (v3 : Int32) (v4 : Int32) (m : Mem) : Option (Nat × Int32 × Int32 × Mem) :=
  (if (800 : Int32) ≤ v4 then some ((v1, v2, v3, m)) else (if v4 = 0 then B_X8_readReviewer_94 N rc v0 v1 v2 v3 v4 m else gd (kd v0 == 8) ((if (gI m v0 4) = (3 : Int32) then B_X8_readReviewer_94 N rc v0 v1 v2 v3 v4 m else some ((v1, v2, v3, m))))))
def L_X8_readReviewer_73 (N : Nat) : Nat → Nat → Nat → Int32 → Int32 → Int32 → Mem → Option (Nat × Int32 × Int32 × Mem)
  | 0 => fun _ _ _ _ _ _ => none
  | n + 1 => T_X8_readReviewer_73 N (L_X8_readReviewer_73 N n)
def B_X8_readReviewer_122 (N : Nat) (v1 : Nat) (v2 : Int32) (v3 : Int32) (m : Mem) : Option (Mem) :=
  gd (kd v1 == 6) (gd (okA 12 (gR m v1 7) v2) (wr (sI m (gR m v1 7) v2.toNatClampNeg v3) (fun m_24 => wr (sI m_24 v1 1 (v2 + (1 : Int32))) (fun m_25 => some (m_25)))))
def f_X8_readReviewer (N : Nat) (v0 : Nat) (v1 : Nat) (m : Mem) : Option (Mem) :=
  gd (kd v1 == 6) ((if (gI m v1 1) < (12 : Int32) then gd (kd v0 == 8) (b1 (f_X8_nextToken N v0 m) (fun m_3 => b2 (f_X8_readNumber N v0 (0 : Int32) ((gI m_3 v1 0) - (1 : Int32)) m_3) (fun r_4 m_4 => gd (okA 12 (gR m_3 v1 4) (gI m v1 1)) (wr (sI m_4 (gR m_3 v1 4) (gI m v1 1).toNatClampNeg r_4) (fun m_6 => b2 (f_X8_readNumber N v0 (0 : Int32) (9 : Int32) m_6) (fun r_7 m_7 => gd (okA 12 (gR m_6 v1 5) (gI m v1 1)) (wr (sI m_7 (gR m_6 v1 5) (gI m v1 1).toNatClampNeg r_7) (fun m_9 => b2 (f_X8_readNumber N v0 (1 : Int32) (10 : Int32) m_9) (fun r_10 m_10 => gd (okA 12 (gR m_9 v1 6) (gI m v1 1)) (wr (sI m_10 (gR m_9 v1 6) (gI m v1 1).toNatClampNeg r_10) (fun m_12 => b1 (f_X8_readTopicsWord N v0 m_12) (fun m_13 => l4 (L_X8_readReviewer_73 N N v0 v1 (gI m v1 1) (0 : Int32) (0 : Int32) m_13) (fun v1_21 v2_21 v3_21 m_21 => B_X8_readReviewer_122 N v1_21 v2_21 v3_21 m_21))))))))))))) else gd (kd v0 == 8) (b1 (f_X8_fail N v0 (3 : Int32) m) (fun m_27 => some (m_27)))))
def f_X8_readSetting (N : Nat) (v0 : Nat) (v1 : Nat) (m : Mem) : Option (Mem) :=
  gd (kd v0 == 8) (b2 (f_X8_isWord N v0 6 m) (fun r_2 m_2 => (if r_2 = 0 then b2 (f_X8_isWord N v0 7 m_2) (fun r_3 m_3 => (if r_3 = 0 then b2 (f_X8_isWord N v0 8 m_3) (fun r_4 m_4 => (if r_4 = 0 then b2 (f_X8_isWord N v0 9 m_4) (fun r_5 m_5 => (if r_5 = 0 then b1 (f_X8_fail N v0 (1 : Int32) m_5) (fun m_6 => some (m_6)) else b1 (f_X8_nextToken N v0 m_5) (fun m_7 => b2 (f_X8_readNumber N v0 (0 : Int32) (99 : Int32) m_7) (fun r_8 m_8 => gd (kd v1 == 6) (wr (sI m_8 v1 15 r_8) (fun m_10 => some (m_10))))))) else b1 (f_X8_nextToken N v0 m_4) (fun m_12 => b2 (f_X8_readNumber N v0 (0 : Int32) (100000 : Int32) m_12) (fun r_13 m_13 => gd (kd v1 == 6) (wr (sI m_13 v1 17 r_13) (fun m_15 => some (m_15))))))) else b1 (f_X8_nextToken N v0 m_3) (fun m_17 => b2 (f_X8_readNumber N v0 (0 : Int32) (100000 : Int32) m_17) (fun r_18 m_18 => gd (kd v1 == 6) (wr (sI m_18 v1 16 r_18) (fun m_20 => some (m_20))))))) else b1 (f_X8_nextToken N v0 m_2) (fun m_22 => b2 (f_X8_readNumber N v0 (1 : Int32) (4 : Int32) m_22) (fun r_23 m_23 => gd (kd v1 == 6) (wr (sI m_23 v1 14 r_23) (fun m_25 => some (m_25))))))))
def f_X8_readStatement (N : Nat) (v0 : Nat) (v1 : Nat) (m : Mem) : Option (Mem) :=
  gd (kd v0 == 8) (b2 (f_X8_isWord N v0 0 m) (fun r_2 m_2 => (if r_2 = 0 then b2 (f_X8_isWord N v0 1 m_2) (fun r_3 m_3 => (if r_3 = 0 then b2 (f_X8_isWord N v0 3 m_3) (fun r_4 m_4 => (if r_4 = 0 then b2 (f_X8_isWord N v0 5 m_4) (fun r_5 m_5 => (if r_5 = 0 then b1 (f_X8_readSetting N v0 v1 m_5) (fun m_6 => some (m_6)) else b1 (f_X8_readConflict N v0 v1 m_5) (fun m_7 => some (m_7)))) else b1 (f_X8_readProposal N v0 v1 m_4) (fun m_9 => some (m_9)))) else b1 (f_X8_readReviewer N v0 v1 m_3) (fun m_11 => some (m_11)))) else b1 (f_X8_readPanel N v0 v1 m_2) (fun m_13 => some (m_13)))))
def T_X8_read_25 (N : Nat) (rc : Nat → Nat → Int32 → Mem → Option (Nat × Mem)) (v0 : Nat) (v1 : Nat) (v2 : Int32) (m : Mem) : Option (Nat × Mem) :=
  (if (800 : Int32) ≤ v2 then some ((v0, m)) else gd (kd v0 == 8) ((if (gI m v0 4) = 0 then some ((v0, m)) else (if (gI m v0 2) = 0 then b1 (f_X8_readStatement N v0 v1 m) (fun m_9 => b1 (f_X8_readSemicolon N v0 m_9) (fun m_10 => rc v0 v1 (v2 + (1 : Int32)) m_10)) else some ((v0, m))))))
def L_X8_read_25 (N : Nat) : Nat → Nat → Nat → Int32 → Mem → Option (Nat × Mem)
  | 0 => fun _ _ _ _ => none
  | n + 1 => T_X8_read_25 N (L_X8_read_25 N n)
def B_X8_read_61 (N : Nat) (v0 : Nat) (m : Mem) : Option (Int32 × Mem) :=
  gd (kd v0 == 8) ((if (gI m v0 2) = 0 then gd (isB (1 : Int32)) (some ((1 : Int32), m)) else gd (isB (0 : Int32)) (some ((0 : Int32), m))))
def f_X8_read (N : Nat) (v0 : Nat) (v1 : Nat) (m : Mem) : Option (Int32 × Mem) :=
  gd (kd v1 == 6) (b1 (f_X6_clear N v1 m) (fun m_2 => gd (kd v0 == 8) (wr (sI m_2 v0 2 (0 : Int32)) (fun m_4 => wr (sI m_4 v0 3 (-1 : Int32)) (fun m_5 => wr (sI m_5 v0 6 (0 : Int32)) (fun m_6 => b1 (f_X8_nextToken N v0 m_6) (fun m_7 => l2 (L_X8_read_25 N N v0 v1 (0 : Int32) m_7) (fun v0_14 m_14 => B_X8_read_61 N v0_14 m_14))))))))
def f_X9_append (N : Nat) (v0 : Nat) (v1 : Int32) (v2 : Int32) (v3 : Int32) (v4 : Int32) (v5 : Int32) (m : Mem) : Option ((Int32 ⊕ Nat) × Mem) :=
  gd (kd v0 == 9) (gd (kd (gR m v0 0) == 8) ((if (gI m (gR m v0 0) 1) ≤ (780 : Int32) then b1 (f_X8_put N (gR m v0 0) v1 m) (fun m_3 => gd (kd (gR m_3 v0 0) == 8) (b1 (f_X8_put N (gR m_3 v0 0) v2 m_3) (fun m_5 => gd (kd (gR m_5 v0 0) == 8) (b1 (f_X8_put N (gR m_5 v0 0) v3 m_5) (fun m_7 => gd (kd (gR m_7 v0 0) == 8) (b1 (f_X8_put N (gR m_7 v0 0) v4 m_7) (fun m_9 => gd (kd (gR m_9 v0 0) == 8) (b1 (f_X8_put N (gR m_9 v0 0) v5 m_9) (fun m_11 => gd (kd (gR m_11 v0 0) == 8) (some (.inl (gI m_11 (gR m_11 v0 0) 1), m_11))))))))))) else some (.inr 0, m))))
def B_X9_truncate_15 (N : Nat)  (m : Mem) : Option ((Int32 ⊕ Nat) × Mem) :=
  some (.inr 2, m)
def f_X9_truncate (N : Nat) (v0 : Nat) (v1 : Int32) (m : Mem) : Option ((Int32 ⊕ Nat) × Mem) :=
  (if v1 < 0 then B_X9_truncate_15 N  m else gd (kd v0 == 9) (gd (kd (gR m v0 0) == 8) ((if v1 ≤ (gI m (gR m v0 0) 1) then wr (sI m (gR m v0 0) 1 v1) (fun m_3 => some (.inl v1, m_3)) else B_X9_truncate_15 N  m))))
def f_X9_load (N : Nat) (v0 : Nat) (m : Mem) : Option ((Int32 ⊕ Nat) × Mem) :=
  gd (kd v0 == 9) (gd (kd (gR m v0 0) == 8) (b2 (f_X8_read N (gR m v0 0) (gR m v0 8) m) (fun r_3 m_3 => gd (kd (gR m_3 v0 0) == 8) (wr (sI m_3 (gR m_3 v0 0) 1 (0 : Int32)) (fun m_5 => (if r_3 = 0 then some (.inr 1, m_5) else wr (sR m_5 v0 8 (gR m_5 v0 7)) (fun m_6 => wr (sR m_6 v0 7 (gR m_5 v0 8)) (fun m_7 => gd (kd (gR m_7 v0 1) == 7) (b1 (f_X7_restart N (gR m_7 v0 1) (gR m_7 v0 7) m_7) (fun m_9 => gd (kd (gR m_9 v0 2) == 2) (b1 (f_X2_clear N (gR m_9 v0 2) m_9) (fun m_11 => gd (kd (gR m_11 v0 7) == 6) (some (.inl (gI m_11 (gR m_11 v0 7) 2), m_11))))))))))))))
def f_X9_errorCode (N : Nat) (v0 : Nat) (m : Mem) : Option (Int32 × Mem) :=
  gd (kd v0 == 9) (gd (kd (gR m v0 0) == 8) (some (gI m (gR m v0 0) 2, m)))
def f_X9_errorPosition (N : Nat) (v0 : Nat) (m : Mem) : Option (Int32 × Mem) :=
  gd (kd v0 == 9) (gd (kd (gR m v0 0) == 8) (some (gI m (gR m v0 0) 3, m)))
def f_X9_count (N : Nat) (v0 : Nat) (v1 : Int32) (m : Mem) : Option ((Int32 ⊕ Nat) × Mem) :=
  (if v1 = (0 : Int32) then gd (kd v0 == 9) (gd (kd (gR m v0 7) == 6) (some (.inl (gI m (gR m v0 7) 0), m))) else if v1 = (1 : Int32) then gd (kd v0 == 9) (gd (kd (gR m v0 7) == 6) (some (.inl (gI m (gR m v0 7) 1), m))) else if v1 = (2 : Int32) then gd (kd v0 == 9) (gd (kd (gR m v0 7) == 6) (some (.inl (gI m (gR m v0 7) 2), m))) else if v1 = (3 : Int32) then gd (kd v0 == 9) (gd (kd (gR m v0 1) == 7) (b2 (f_X7_countReviews N (gR m v0 1) m) (fun r_12 m_12 => some (.inl r_12, m_12)))) else if v1 = (4 : Int32) then gd (kd v0 == 9) (gd (kd (gR m v0 1) == 7) (b2 (f_X7_countScores N (gR m v0 1) m) (fun r_16 m_16 => some (.inl r_16, m_16)))) else if v1 = (5 : Int32) then gd (kd v0 == 9) (gd (kd (gR m v0 1) == 7) (b2 (f_X7_countDeclared N (gR m v0 1) m) (fun r_20 m_20 => some (.inl r_20, m_20)))) else if v1 = (6 : Int32) then gd (kd v0 == 9) (gd (kd (gR m v0 1) == 7) (b2 (f_J6_bitCount_0f7a4 N (gI m (gR m v0 1) 2) m) (fun r_24 m_24 => some (.inl r_24, m_24)))) else some (.inr 1, m))
def B_X9_checkProposal_15 (N : Nat)  (m : Mem) : Option ((Unit ⊕ Nat) × Mem) :=
  some (.inr 2, m)
def f_X9_checkProposal (N : Nat) (v0 : Nat) (v1 : Int32) (m : Mem) : Option ((Unit ⊕ Nat) × Mem) :=
  (if v1 < 0 then B_X9_checkProposal_15 N  m else gd (kd v0 == 9) (gd (kd (gR m v0 7) == 6) ((if v1 < (gI m (gR m v0 7) 2) then some (.inl (), m) else B_X9_checkProposal_15 N  m))))
def B_X9_checkReviewer_15 (N : Nat)  (m : Mem) : Option ((Unit ⊕ Nat) × Mem) :=
  some (.inr 2, m)
def f_X9_checkReviewer (N : Nat) (v0 : Nat) (v1 : Int32) (m : Mem) : Option ((Unit ⊕ Nat) × Mem) :=
  (if v1 < 0 then B_X9_checkReviewer_15 N  m else gd (kd v0 == 9) (gd (kd (gR m v0 7) == 6) ((if v1 < (gI m (gR m v0 7) 1) then some (.inl (), m) else B_X9_checkReviewer_15 N  m))))
def f_X9_checkPair (N : Nat) (v0 : Nat) (v1 : Int32) (v2 : Int32) (m : Mem) : Option ((Unit ⊕ Nat) × Mem) :=
  gd (kd v0 == 9) (x1 (f_X9_checkReviewer N v0 v1 m) (fun m_2 => x1 (f_X9_checkProposal N v0 v2 m_2) (fun m_3 => some (.inl (), m_3))))
def f_X9_isConflict (N : Nat) (v0 : Nat) (v1 : Int32) (v2 : Int32) (m : Mem) : Option ((Int32 ⊕ Nat) × Mem) :=
  gd (kd v0 == 9) (x1 (f_X9_checkPair N v0 v1 v2 m) (fun m_2 => b2 (f_X9_hasConflict N (gR m_2 v0 7) (gR m_2 v0 1) v1 v2 m_2) (fun r_3 m_3 => gd (isB r_3) (some (.inl r_3, m_3)))))
def f_X9_match (N : Nat) (v0 : Nat) (v1 : Int32) (v2 : Int32) (m : Mem) : Option ((Int32 ⊕ Nat) × Mem) :=
  gd (kd v0 == 9) (x1 (f_X9_checkPair N v0 v1 v2 m) (fun m_2 => gd (kd (gR m_2 v0 7) == 6) (b2 (f_X6_matchOf N (gR m_2 v0 7) v1 v2 m_2) (fun r_4 m_4 => some (.inl r_4, m_4)))))
def B_X9_declare_56 (N : Nat) (v0 : Nat) (v1 : Int32) (v2 : Int32) (s0 : Int32) (m : Mem) : Option ((Int32 ⊕ Nat) × Mem) :=
  gd (kd v0 == 9) (gd (kd (gR m v0 1) == 7) (b1 (f_X7_addConflict N (gR m v0 1) v1 v2 m) (fun m_11 => gd (isB s0) (some (.inl s0, m_11)))))
def f_X9_declare (N : Nat) (v0 : Nat) (v1 : Int32) (v2 : Int32) (m : Mem) : Option ((Int32 ⊕ Nat) × Mem) :=
  gd (kd v0 == 9) (x1 (f_X9_checkPair N v0 v1 v2 m) (fun m_2 => gd (kd (gR m_2 v0 1) == 7) (b2 (f_X7_hasReview N (gR m_2 v0 1) v1 v2 m_2) (fun r_4 m_4 => (if r_4 = 0 then gd (kd (gR m_4 v0 2) == 2) (b1 (f_X2_remember N (gR m_4 v0 2) (gR m_4 v0 1) m_4) (fun m_6 => gd (kd (gR m_6 v0 1) == 7) (b2 (f_X7_isDeclared N (gR m_6 v0 1) v1 v2 m_6) (fun r_8 m_8 => (if r_8 = 0 then B_X9_declare_56 N v0 v1 v2 (1 : Int32) m_8 else B_X9_declare_56 N v0 v1 v2 (0 : Int32) m_8))))) else some (.inr 0, m_4))))))
def B_X9_canTake_36 (N : Nat)  (m : Mem) : Option (Int32 × Mem) :=
  gd (isB (0 : Int32)) (some ((0 : Int32), m))
def f_X9_canTake (N : Nat) (v0 : Nat) (v1 : Int32) (v2 : Int32) (m : Mem) : Option (Int32 × Mem) :=
  gd (kd v0 == 9) (gd (kd (gR m v0 1) == 7) (b2 (f_X7_hasReview N (gR m v0 1) v1 v2 m) (fun r_3 m_3 => (if r_3 = 0 then gd (kd (gR m_3 v0 1) == 7) (b2 (f_X7_reviewsOfReviewer N (gR m_3 v0 1) v1 m_3) (fun r_6 m_6 => gd (kd (gR m_6 v0 7) == 6) (gd (okA 12 (gR m_6 (gR m_6 v0 7) 6) v1) ((if (gI m_6 (gR m_6 (gR m_6 v0 7) 6) v1.toNatClampNeg) ≤ r_6 then B_X9_canTake_36 N  m_6 else gd (isB (1 : Int32)) (some ((1 : Int32), m_6))))))) else B_X9_canTake_36 N  m_3))))
def B_X9_assign_59 (N : Nat)  (m : Mem) : Option ((Int32 ⊕ Nat) × Mem) :=
  some (.inr 0, m)
def f_X9_assign (N : Nat) (v0 : Nat) (v1 : Int32) (v2 : Int32) (m : Mem) : Option ((Int32 ⊕ Nat) × Mem) :=
  gd (kd v0 == 9) (x1 (f_X9_checkPair N v0 v1 v2 m) (fun m_2 => b2 (f_X9_fits N (gR m_2 v0 7) (gR m_2 v0 1) v1 v2 m_2) (fun r_3 m_3 => (if r_3 = 0 then some (.inr 1, m_3) else b2 (f_X9_canTake N v0 v1 v2 m_3) (fun r_4 m_4 => (if r_4 = 0 then B_X9_assign_59 N  m_4 else gd (kd (gR m_4 v0 1) == 7) (b2 (f_X7_reviewsOfProposal N (gR m_4 v0 1) v2 m_4) (fun r_6 m_6 => gd (kd (gR m_6 v0 7) == 6) ((if r_6 < (gI m_6 (gR m_6 v0 7) 14) then gd (kd (gR m_6 v0 2) == 2) (b1 (f_X2_remember N (gR m_6 v0 2) (gR m_6 v0 1) m_6) (fun m_9 => gd (kd (gR m_9 v0 1) == 7) (b1 (f_X7_put N (gR m_9 v0 1) v1 v2 (-1 : Int32) m_9) (fun m_11 => gd (kd (gR m_11 v0 1) == 7) (b2 (f_X7_reviewsOfProposal N (gR m_11 v0 1) v2 m_11) (fun r_13 m_13 => some (.inl r_13, m_13))))))) else B_X9_assign_59 N  m_6))))))))))
def f_X9_checkReview (N : Nat) (v0 : Nat) (v1 : Int32) (v2 : Int32) (m : Mem) : Option ((Unit ⊕ Nat) × Mem) :=
  gd (kd v0 == 9) (gd (kd (gR m v0 1) == 7) (b2 (f_X7_hasReview N (gR m v0 1) v1 v2 m) (fun r_3 m_3 => (if r_3 = 0 then some (.inr 3, m_3) else some (.inl (), m_3)))))
def f_X9_unassign (N : Nat) (v0 : Nat) (v1 : Int32) (v2 : Int32) (m : Mem) : Option ((Int32 ⊕ Nat) × Mem) :=
  gd (kd v0 == 9) (x1 (f_X9_checkPair N v0 v1 v2 m) (fun m_2 => x1 (f_X9_checkReview N v0 v1 v2 m_2) (fun m_3 => gd (kd (gR m_3 v0 2) == 2) (b1 (f_X2_remember N (gR m_3 v0 2) (gR m_3 v0 1) m_3) (fun m_5 => gd (kd (gR m_5 v0 1) == 7) (b2 (f_X7_scoreAt N (gR m_5 v0 1) v1 v2 m_5) (fun r_7 m_7 => gd (kd (gR m_7 v0 1) == 7) (b1 (f_X7_put N (gR m_7 v0 1) v1 v2 (0 : Int32) m_7) (fun m_9 => some (.inl r_7, m_9))))))))))
def f_X9_isBetterChoice (N : Nat) (v0 : Nat) (v1 : Int32) (v2 : Int32) (v3 : Int32) (m : Mem) : Option (Int32 × Mem) :=
  gd (kd v0 == 9) (gd (kd (gR m v0 7) == 6) (b2 (f_X6_matchOf N (gR m v0 7) v1 v3 m) (fun r_3 m_3 => gd (kd (gR m_3 v0 7) == 6) (b2 (f_X6_matchOf N (gR m_3 v0 7) v2 v3 m_3) (fun r_5 m_5 => (if r_3 = r_5 then gd (kd (gR m_5 v0 1) == 7) (b2 (f_X7_reviewsOfReviewer N (gR m_5 v0 1) v1 m_5) (fun r_7 m_7 => gd (kd (gR m_7 v0 1) == 7) (b2 (f_X7_reviewsOfReviewer N (gR m_7 v0 1) v2 m_7) (fun r_9 m_9 => (if r_9 ≤ r_7 then gd (isB (0 : Int32)) (some ((0 : Int32), m_9)) else gd (isB (1 : Int32)) (some ((1 : Int32), m_9))))))) else (if r_3 ≤ r_5 then gd (isB (0 : Int32)) (some ((0 : Int32), m_5)) else gd (isB (1 : Int32)) (some ((1 : Int32), m_5)))))))))
def B_X9_addReview_55 (N : Nat) (rc : Nat → Int32 → Int32 → Int32 → Mem → Option (Nat × Int32 × Int32 × Mem)) (v0 : Nat) (v1 : Int32) (v3 : Int32) (m : Mem) : Option (Nat × Int32 × Int32 × Mem) :=
  rc v0 v1 v3 (v3 + (1 : Int32)) m
def T_X9_addReview_4 (N : Nat) (rc : Nat → Int32 → Int32 → Int32 → Mem → Option (Nat × Int32 × Int32 × Mem)) (v0 : Nat) (v1 : Int32) (v2 : Int32) (v3 : Int32) (m : Mem) : Option (Nat × Int32 × Int32 × Mem) :=
  gd (kd v0 == 9) (gd (kd (gR m v0 7) == 6) ((if (gI m (gR m v0 7) 1) ≤ v3 then some ((v0, v1, v2, m)) else b2 (f_X9_fits N (gR m v0 7) (gR m v0 1) v3 v1 m) (fun r_3 m_3 => (if r_3 = 0 then rc v0 v1 v2 (v3 + (1 : Int32)) m_3 else b2 (f_X9_canTake N v0 v3 v1 m_3) (fun r_4 m_4 => (if r_4 = 0 then rc v0 v1 v2 (v3 + (1 : Int32)) m_4 else (if v2 = (-1 : Int32) then B_X9_addReview_55 N rc v0 v1 v3 m_4 else b2 (f_X9_isBetterChoice N v0 v3 v2 v1 m_4) (fun r_5 m_5 => (if r_5 = 0 then rc v0 v1 v2 (v3 + (1 : Int32)) m_5 else B_X9_addReview_55 N rc v0 v1 v3 m_5))))))))))
def L_X9_addReview_4 (N : Nat) : Nat → Nat → Int32 → Int32 → Int32 → Mem → Option (Nat × Int32 × Int32 × Mem)
  | 0 => fun _ _ _ _ _ => none
  | n + 1 => T_X9_addReview_4 N (L_X9_addReview_4 N n)
def f_X9_addReview (N : Nat) (v0 : Nat) (v1 : Int32) (m : Mem) : Option (Int32 × Mem) :=
  l4 (L_X9_addReview_4 N N v0 v1 (-1 : Int32) (0 : Int32) m) (fun v0_11 v1_11 v2_11 m_11 => (if v2_11 = (-1 : Int32) then gd (isB (0 : Int32)) (some ((0 : Int32), m_11)) else gd (kd v0_11 == 9) (gd (kd (gR m_11 v0_11 1) == 7) (b1 (f_X7_put N (gR m_11 v0_11 1) v2_11 v1_11 (-1 : Int32) m_11) (fun m_14 => gd (isB (1 : Int32)) (some ((1 : Int32), m_14)))))))
def B_X9_checkPanel_15 (N : Nat)  (m : Mem) : Option ((Unit ⊕ Nat) × Mem) :=
  some (.inr 2, m)
def f_X9_checkPanel (N : Nat) (v0 : Nat) (v1 : Int32) (m : Mem) : Option ((Unit ⊕ Nat) × Mem) :=
  (if v1 < 0 then B_X9_checkPanel_15 N  m else gd (kd v0 == 9) (gd (kd (gR m v0 7) == 6) ((if v1 < (gI m (gR m v0 7) 0) then some (.inl (), m) else B_X9_checkPanel_15 N  m))))
def T_X9_assignAll_34 (N : Nat) (rc : Nat → Int32 → Int32 → Int32 → Int32 → Mem → Option (Nat × Int32 × Int32 × Int32 × Mem)) (v0 : Nat) (v1 : Int32) (v2 : Int32) (v3 : Int32) (v4 : Int32) (m : Mem) : Option (Nat × Int32 × Int32 × Int32 × Mem) :=
  gd (kd v0 == 9) (gd (kd (gR m v0 7) == 6) ((if (gI m (gR m v0 7) 2) ≤ v4 then some ((v0, v1, v2, v3, m)) else gd (okA 12 (gR m (gR m v0 7) 9) v4) ((if (gI m (gR m (gR m v0 7) 9) v4.toNatClampNeg) = v1 then gd (kd (gR m v0 1) == 7) (b2 (f_X7_reviewsOfProposal N (gR m v0 1) v4 m) (fun r_11 m_11 => (if v3 ≤ r_11 then rc v0 v1 v2 v3 (v4 + (1 : Int32)) m_11 else b2 (f_X9_addReview N v0 v4 m_11) (fun r_12 m_12 => (if r_12 = 0 then rc v0 v1 v2 v3 (v4 + (1 : Int32)) m_12 else rc v0 v1 (v2 + (1 : Int32)) v3 (v4 + (1 : Int32)) m_12))))) else rc v0 v1 v2 v3 (v4 + (1 : Int32)) m)))))
def L_X9_assignAll_34 (N : Nat) : Nat → Nat → Int32 → Int32 → Int32 → Int32 → Mem → Option (Nat × Int32 × Int32 × Int32 × Mem)
  | 0 => fun _ _ _ _ _ _ => none
  | n + 1 => T_X9_assignAll_34 N (L_X9_assignAll_34 N n)
def T_X9_assignAll_20 (N : Nat) (rc : Nat → Int32 → Int32 → Int32 → Mem → Option (Int32 × Mem)) (v0 : Nat) (v1 : Int32) (v2 : Int32) (v3 : Int32) (m : Mem) : Option (Int32 × Mem) :=
  gd (kd v0 == 9) (gd (kd (gR m v0 7) == 6) ((if (gI m (gR m v0 7) 14) < v3 then some ((v2, m)) else l5 (L_X9_assignAll_34 N N v0 v1 v2 v3 (0 : Int32) m) (fun v0_17 v1_17 v2_17 v3_17 m_17 => rc v0_17 v1_17 v2_17 (v3_17 + (1 : Int32)) m_17))))
def L_X9_assignAll_20 (N : Nat) : Nat → Nat → Int32 → Int32 → Int32 → Mem → Option (Int32 × Mem)
  | 0 => fun _ _ _ _ _ => none
  | n + 1 => T_X9_assignAll_20 N (L_X9_assignAll_20 N n)
def f_X9_assignAll (N : Nat) (v0 : Nat) (v1 : Int32) (m : Mem) : Option ((Int32 ⊕ Nat) × Mem) :=
  gd (kd v0 == 9) (x1 (f_X9_checkPanel N v0 v1 m) (fun m_2 => gd (kd (gR m_2 v0 2) == 2) (b1 (f_X2_remember N (gR m_2 v0 2) (gR m_2 v0 1) m_2) (fun m_4 => l2 (L_X9_assignAll_20 N N v0 v1 (0 : Int32) (1 : Int32) m_4) (fun v2_19 m_19 => some (.inl v2_19, m_19))))))
def T_X9_reviewerOf_10 (N : Nat) (rc : Nat → Int32 → Int32 → Int32 → Int32 → Mem → Option ((Mem) ⊕ (Int32 × Mem))) (v0 : Nat) (v1 : Int32) (v2 : Int32) (v3 : Int32) (v4 : Int32) (m : Mem) : Option ((Mem) ⊕ (Int32 × Mem)) :=
  gd (kd v0 == 9) (gd (kd (gR m v0 7) == 6) ((if (gI m (gR m v0 7) 1) ≤ v4 then some (.inl (m)) else gd (kd (gR m v0 1) == 7) (b2 (f_X7_hasReview N (gR m v0 1) v4 v1 m) (fun r_6 m_6 => (if r_6 = 0 then rc v0 v1 v2 v3 (v4 + (1 : Int32)) m_6 else (if v3 = v2 then some (.inr ((v4, m_6))) else rc v0 v1 v2 (v3 + (1 : Int32)) (v4 + (1 : Int32)) m_6)))))))
def L_X9_reviewerOf_10 (N : Nat) : Nat → Nat → Int32 → Int32 → Int32 → Int32 → Mem → Option ((Mem) ⊕ (Int32 × Mem))
  | 0 => fun _ _ _ _ _ _ => none
  | n + 1 => T_X9_reviewerOf_10 N (L_X9_reviewerOf_10 N n)
def f_X9_reviewerOf (N : Nat) (v0 : Nat) (v1 : Int32) (v2 : Int32) (m : Mem) : Option ((Int32 ⊕ Nat) × Mem) :=
  gd (kd v0 == 9) (x1 (f_X9_checkProposal N v0 v1 m) (fun m_2 => (L_X9_reviewerOf_10 N N v0 v1 v2 (0 : Int32) (0 : Int32) m_2).bind (fun x9 => match x9 with | .inl (m_10) => some (.inr 2, m_10) | .inr ((v4_10, m_10)) => some (.inl v4_10, m_10))))
def f_X9_loadOf (N : Nat) (v0 : Nat) (v1 : Int32) (m : Mem) : Option ((Int32 ⊕ Nat) × Mem) :=
  gd (kd v0 == 9) (x1 (f_X9_checkReviewer N v0 v1 m) (fun m_2 => gd (kd (gR m_2 v0 1) == 7) (b2 (f_X7_reviewsOfReviewer N (gR m_2 v0 1) v1 m_2) (fun r_4 m_4 => some (.inl r_4, m_4)))))
def T_X9_matchSum_23 (N : Nat) (rc : Nat → Int32 → Int32 → Int32 → Int32 → Mem → Option (Nat × Int32 × Int32 × Int32 × Mem)) (v0 : Nat) (v1 : Int32) (v2 : Int32) (v3 : Int32) (v4 : Int32) (m : Mem) : Option (Nat × Int32 × Int32 × Int32 × Mem) :=
  gd (kd v0 == 9) (gd (kd (gR m v0 7) == 6) ((if (gI m (gR m v0 7) 1) ≤ v4 then some ((v0, v1, v2, v3, m)) else gd (okA 12 (gR m (gR m v0 7) 9) v3) ((if (gI m (gR m (gR m v0 7) 9) v3.toNatClampNeg) = v1 then gd (kd (gR m v0 1) == 7) (b2 (f_X7_hasReview N (gR m v0 1) v4 v3 m) (fun r_9 m_9 => (if r_9 = 0 then rc v0 v1 v2 v3 (v4 + (1 : Int32)) m_9 else gd (kd (gR m_9 v0 7) == 6) (b2 (f_X6_matchOf N (gR m_9 v0 7) v4 v3 m_9) (fun r_11 m_11 => rc v0 v1 (v2 + r_11) v3 (v4 + (1 : Int32)) m_11))))) else rc v0 v1 v2 v3 (v4 + (1 : Int32)) m)))))
def L_X9_matchSum_23 (N : Nat) : Nat → Nat → Int32 → Int32 → Int32 → Int32 → Mem → Option (Nat × Int32 × Int32 × Int32 × Mem)
  | 0 => fun _ _ _ _ _ _ => none
  | n + 1 => T_X9_matchSum_23 N (L_X9_matchSum_23 N n)
def T_X9_matchSum_9 (N : Nat) (rc : Nat → Int32 → Int32 → Int32 → Mem → Option (Int32 × Mem)) (v0 : Nat) (v1 : Int32) (v2 : Int32) (v3 : Int32) (m : Mem) : Option (Int32 × Mem) :=
  gd (kd v0 == 9) (gd (kd (gR m v0 7) == 6) ((if (gI m (gR m v0 7) 2) ≤ v3 then some ((v2, m)) else l5 (L_X9_matchSum_23 N N v0 v1 v2 v3 (0 : Int32) m) (fun v0_15 v1_15 v2_15 v3_15 m_15 => rc v0_15 v1_15 v2_15 (v3_15 + (1 : Int32)) m_15))))
def L_X9_matchSum_9 (N : Nat) : Nat → Nat → Int32 → Int32 → Int32 → Mem → Option (Int32 × Mem)
  | 0 => fun _ _ _ _ _ => none
  | n + 1 => T_X9_matchSum_9 N (L_X9_matchSum_9 N n)
def f_X9_matchSum (N : Nat) (v0 : Nat) (v1 : Int32) (m : Mem) : Option ((Int32 ⊕ Nat) × Mem) :=
  gd (kd v0 == 9) (x1 (f_X9_checkPanel N v0 v1 m) (fun m_2 => l2 (L_X9_matchSum_9 N N v0 v1 (0 : Int32) (0 : Int32) m_2) (fun v2_17 m_17 => some (.inl v2_17, m_17))))
def f_X9_mostReviews (N : Nat) (v0 : Nat) (v1 : Int32) (m : Mem) : Option ((Int32 ⊕ Nat) × Mem) :=
  gd (kd v0 == 9) (x1 (f_X9_checkPanel N v0 v1 m) (fun m_2 => gd (kd (gR m_2 v0 5) == 4) (b1 (f_X4_solve N (gR m_2 v0 5) (gR m_2 v0 7) (gR m_2 v0 1) v1 m_2) (fun m_4 => gd (kd (gR m_4 v0 5) == 4) (some (.inl (gI m_4 (gR m_4 v0 5) 10), m_4))))))
def f_X9_bestMatchSum (N : Nat) (v0 : Nat) (v1 : Int32) (m : Mem) : Option ((Int32 ⊕ Nat) × Mem) :=
  gd (kd v0 == 9) (x1 (f_X9_checkPanel N v0 v1 m) (fun m_2 => gd (kd (gR m_2 v0 5) == 4) (b1 (f_X4_solve N (gR m_2 v0 5) (gR m_2 v0 7) (gR m_2 v0 1) v1 m_2) (fun m_4 => gd (kd (gR m_4 v0 5) == 4) (some (.inl (gI m_4 (gR m_4 v0 5) 11), m_4))))))
def B_X9_setScore_32 (N : Nat) (v0 : Nat) (v1 : Int32) (v2 : Int32) (v3 : Int32) (m : Mem) : Option ((Int32 ⊕ Nat) × Mem) :=
  gd (kd v0 == 9) (x1 (f_X9_checkReview N v0 v1 v2 m) (fun m_4 => gd (kd (gR m_4 v0 2) == 2) (b1 (f_X2_remember N (gR m_4 v0 2) (gR m_4 v0 1) m_4) (fun m_6 => gd (kd (gR m_6 v0 1) == 7) (b2 (f_X7_scoreAt N (gR m_6 v0 1) v1 v2 m_6) (fun r_8 m_8 => gd (kd (gR m_8 v0 1) == 7) (b1 (f_X7_put N (gR m_8 v0 1) v1 v2 v3 m_8) (fun m_10 => some (.inl r_8, m_10)))))))))
def B_X9_setScore_22 (N : Nat)  (m : Mem) : Option ((Int32 ⊕ Nat) × Mem) :=
  some (.inr 1, m)
def f_X9_setScore (N : Nat) (v0 : Nat) (v1 : Int32) (v2 : Int32) (v3 : Int32) (m : Mem) : Option ((Int32 ⊕ Nat) × Mem) :=
  gd (kd v0 == 9) (x1 (f_X9_checkPair N v0 v1 v2 m) (fun m_2 => (if v3 = (-1 : Int32) then B_X9_setScore_32 N v0 v1 v2 v3 m_2 else (if v3 < (1 : Int32) then B_X9_setScore_22 N  m_2 else (if v3 ≤ (100 : Int32) then B_X9_setScore_32 N v0 v1 v2 v3 m_2 else B_X9_setScore_22 N  m_2)))))
def f_X9_checkScore (N : Nat) (v0 : Nat) (v1 : Int32) (v2 : Int32) (m : Mem) : Option ((Unit ⊕ Nat) × Mem) :=
  gd (kd v0 == 9) (gd (kd (gR m v0 1) == 7) (b2 (f_X7_hasScore N (gR m v0 1) v1 v2 m) (fun r_3 m_3 => (if r_3 = 0 then some (.inr 3, m_3) else some (.inl (), m_3)))))
def f_X9_adjusted (N : Nat) (v0 : Nat) (v1 : Int32) (v2 : Int32) (m : Mem) : Option ((Int32 ⊕ Nat) × Mem) :=
  gd (kd v0 == 9) (x1 (f_X9_checkPair N v0 v1 v2 m) (fun m_2 => x1 (f_X9_checkScore N v0 v1 v2 m_2) (fun m_3 => gd (kd (gR m_3 v0 3) == 5) (b1 (f_X5_update N (gR m_3 v0 3) (gR m_3 v0 7) (gR m_3 v0 1) m_3) (fun m_5 => gd (kd (gR m_5 v0 1) == 7) (b2 (f_X7_scoreAt N (gR m_5 v0 1) v1 v2 m_5) (fun r_7 m_7 => gd (kd (gR m_5 v0 3) == 5) (b2 (f_X5_adjustedScore N (gR m_5 v0 3) v1 r_7 m_7) (fun r_9 m_9 => some (.inl r_9, m_9))))))))))
def f_X9_checkRanked (N : Nat) (v0 : Nat) (v1 : Int32) (m : Mem) : Option ((Unit ⊕ Nat) × Mem) :=
  gd (kd v0 == 9) (gd (kd (gR m v0 3) == 5) (b2 (f_X5_isRanked N (gR m v0 3) v1 m) (fun r_3 m_3 => (if r_3 = 0 then some (.inr 3, m_3) else some (.inl (), m_3)))))
def f_X9_normalized (N : Nat) (v0 : Nat) (v1 : Int32) (m : Mem) : Option ((Int32 ⊕ Nat) × Mem) :=
  gd (kd v0 == 9) (x1 (f_X9_checkProposal N v0 v1 m) (fun m_2 => gd (kd (gR m_2 v0 3) == 5) (b1 (f_X5_update N (gR m_2 v0 3) (gR m_2 v0 7) (gR m_2 v0 1) m_2) (fun m_4 => x1 (f_X9_checkRanked N v0 v1 m_4) (fun m_5 => gd (kd (gR m_5 v0 3) == 5) (gd (okA 12 (gR m_5 (gR m_5 v0 3) 4) v1) (some (.inl (gI m_5 (gR m_5 (gR m_5 v0 3) 4) v1.toNatClampNeg), m_5))))))))
def T_X9_leniency_38 (N : Nat) (rc : Nat → Int32 → Int32 → Int32 → Int32 → Int32 → Mem → Option (Nat × Int32 × Int32 × Int32 × Int32 × Mem)) (v0 : Nat) (v1 : Int32) (v2 : Int32) (v3 : Int32) (v4 : Int32) (v5 : Int32) (m : Mem) : Option (Nat × Int32 × Int32 × Int32 × Int32 × Mem) :=
  gd (kd v0 == 9) (gd (kd (gR m v0 7) == 6) ((if (gI m (gR m v0 7) 1) ≤ v5 then some ((v0, v1, v2, v3, v4, m)) else gd (okA 12 (gR m (gR m v0 7) 4) v5) (gd (okA 12 (gR m (gR m v0 7) 4) v1) ((if (gI m (gR m (gR m v0 7) 4) v5.toNatClampNeg) = (gI m (gR m (gR m v0 7) 4) v1.toNatClampNeg) then gd (kd (gR m v0 3) == 5) (gd (okA 12 (gR m (gR m v0 3) 0) v5) (gd (okA 12 (gR m (gR m v0 3) 1) v5) (rc v0 v1 v2 (v3 + (gI m (gR m (gR m v0 3) 0) v5.toNatClampNeg)) (v4 + (gI m (gR m (gR m v0 3) 1) v5.toNatClampNeg)) (v5 + (1 : Int32)) m))) else rc v0 v1 v2 v3 v4 (v5 + (1 : Int32)) m))))))
def L_X9_leniency_38 (N : Nat) : Nat → Nat → Int32 → Int32 → Int32 → Int32 → Int32 → Mem → Option (Nat × Int32 × Int32 × Int32 × Int32 × Mem)
  | 0 => fun _ _ _ _ _ _ _ => none
  | n + 1 => T_X9_leniency_38 N (L_X9_leniency_38 N n)
def B_X9_leniency_114 (N : Nat)  (m : Mem) : Option ((UInt64 ⊕ Nat) × Mem) :=
  some (.inr 3, m)
def f_X9_leniency (N : Nat) (v0 : Nat) (v1 : Int32) (m : Mem) : Option ((UInt64 ⊕ Nat) × Mem) :=
  gd (kd v0 == 9) (x1 (f_X9_checkReviewer N v0 v1 m) (fun m_2 => gd (kd (gR m_2 v0 3) == 5) (b1 (f_X5_update N (gR m_2 v0 3) (gR m_2 v0 7) (gR m_2 v0 1) m_2) (fun m_4 => gd (kd (gR m_4 v0 3) == 5) (gd (okA 12 (gR m_4 (gR m_4 v0 3) 0) v1) (l6 (L_X9_leniency_38 N N v0 v1 (gI m_4 (gR m_4 (gR m_4 v0 3) 0) v1.toNatClampNeg) (0 : Int32) (0 : Int32) (0 : Int32) m_4) (fun v0_16 v1_16 v2_16 v3_16 v4_16 m_16 => (if v2_16 = 0 then B_X9_leniency_114 N  m_16 else (if v3_16 = 0 then B_X9_leniency_114 N  m_16 else gd (kd v0_16 == 9) (gd (kd (gR m_16 v0_16 3) == 5) (gd (okA 12 (gR m_16 (gR m_16 v0_16 3) 1) v1_16) (gd (okN (FP.ddiv (FP.i2d (gI m_16 (gR m_16 (gR m_16 v0_16 3) 1) v1_16.toNatClampNeg)) (FP.i2d v2_16))) (gd (okN (FP.ddiv (FP.i2d v4_16) (FP.i2d v3_16))) (gd (okN (FP.dsub (FP.ddiv (FP.i2d (gI m_16 (gR m_16 (gR m_16 v0_16 3) 1) v1_16.toNatClampNeg)) (FP.i2d v2_16)) (FP.ddiv (FP.i2d v4_16) (FP.i2d v3_16)))) (some (.inl (FP.dsub (FP.ddiv (FP.i2d (gI m_16 (gR m_16 (gR m_16 v0_16 3) 1) v1_16.toNatClampNeg)) (FP.i2d v2_16)) (FP.ddiv (FP.i2d v4_16) (FP.i2d v3_16))), m_16))))))))))))))))
def T_X9_disagreement_27 (N : Nat) (rc : Nat → Int32 → Int32 → Int32 → Int32 → Int32 → Mem → Option (Nat × Int32 × Int32 × Int32 × Int32 × Mem)) (v0 : Nat) (v1 : Int32) (v2 : Int32) (v3 : Int32) (v4 : Int32) (v5 : Int32) (m : Mem) : Option (Nat × Int32 × Int32 × Int32 × Int32 × Mem) :=
  (if v4 ≤ v5 then some ((v0, v1, v2, v3, v4, m)) else gd (kd v0 == 9) (gd (kd (gR m v0 1) == 7) (b2 (f_X7_hasScore N (gR m v0 1) v4 v1 m) (fun r_7 m_7 => (if r_7 = 0 then rc v0 v1 v2 v3 v4 (v5 + (1 : Int32)) m_7 else gd (kd (gR m_7 v0 1) == 7) (b2 (f_X7_hasScore N (gR m_7 v0 1) v5 v1 m_7) (fun r_9 m_9 => (if r_9 = 0 then rc v0 v1 v2 v3 v4 (v5 + (1 : Int32)) m_9 else gd (kd (gR m_9 v0 1) == 7) (b2 (f_X7_scoreAt N (gR m_9 v0 1) v4 v1 m_9) (fun r_11 m_11 => gd (kd (gR m_11 v0 1) == 7) (b2 (f_X7_scoreAt N (gR m_11 v0 1) v5 v1 m_11) (fun r_13 m_13 => rc v0 v1 (v2 + (1 : Int32)) (v3 + (if 0 ≤ (r_11 - r_13) then (r_11 - r_13) else 0 - (r_11 - r_13))) v4 (v5 + (1 : Int32)) m_13))))))))))))
def L_X9_disagreement_27 (N : Nat) : Nat → Nat → Int32 → Int32 → Int32 → Int32 → Int32 → Mem → Option (Nat × Int32 × Int32 × Int32 × Int32 × Mem)
  | 0 => fun _ _ _ _ _ _ _ => none
  | n + 1 => T_X9_disagreement_27 N (L_X9_disagreement_27 N n)
def T_X9_disagreement_12 (N : Nat) (rc : Nat → Int32 → Int32 → Int32 → Int32 → Mem → Option (Int32 × Int32 × Mem)) (v0 : Nat) (v1 : Int32) (v2 : Int32) (v3 : Int32) (v4 : Int32) (m : Mem) : Option (Int32 × Int32 × Mem) :=
  gd (kd v0 == 9) (gd (kd (gR m v0 7) == 6) ((if (gI m (gR m v0 7) 1) ≤ v4 then some ((v2, v3, m)) else l6 (L_X9_disagreement_27 N N v0 v1 v2 v3 v4 (0 : Int32) m) (fun v0_17 v1_17 v2_17 v3_17 v4_17 m_17 => rc v0_17 v1_17 v2_17 v3_17 (v4_17 + (1 : Int32)) m_17))))
def L_X9_disagreement_12 (N : Nat) : Nat → Nat → Int32 → Int32 → Int32 → Int32 → Mem → Option (Int32 × Int32 × Mem)
  | 0 => fun _ _ _ _ _ _ => none
  | n + 1 => T_X9_disagreement_12 N (L_X9_disagreement_12 N n)
def f_X9_disagreement (N : Nat) (v0 : Nat) (v1 : Int32) (m : Mem) : Option ((UInt64 ⊕ Nat) × Mem) :=
  gd (kd v0 == 9) (x1 (f_X9_checkProposal N v0 v1 m) (fun m_2 => l3 (L_X9_disagreement_12 N N v0 v1 (0 : Int32) (0 : Int32) (0 : Int32) m_2) (fun v2_19 v3_19 m_19 => (if v2_19 = 0 then some (.inr 3, m_19) else gd (okN (FP.ddiv (FP.i2d v3_19) (FP.i2d v2_19))) (some (.inl (FP.ddiv (FP.i2d v3_19) (FP.i2d v2_19)), m_19))))))
def T_X9_rank_29 (N : Nat) (rc : Nat → Int32 → Int32 → Int32 → Mem → Option (Int32 × Mem)) (v0 : Nat) (v1 : Int32) (v2 : Int32) (v3 : Int32) (m : Mem) : Option (Int32 × Mem) :=
  gd (kd v0 == 9) (gd (kd (gR m v0 7) == 6) ((if (gI m (gR m v0 7) 2) ≤ v3 then some ((v2, m)) else gd (okA 12 (gR m (gR m v0 7) 9) v3) (gd (okA 12 (gR m (gR m v0 7) 9) v1) ((if (gI m (gR m (gR m v0 7) 9) v3.toNatClampNeg) = (gI m (gR m (gR m v0 7) 9) v1.toNatClampNeg) then gd (kd (gR m v0 3) == 5) (b2 (f_X5_isRanked N (gR m v0 3) v3 m) (fun r_11 m_11 => (if r_11 = 0 then rc v0 v1 v2 (v3 + (1 : Int32)) m_11 else gd (kd (gR m_11 v0 3) == 5) (b2 (f_X5_isBefore N (gR m_11 v0 3) v3 v1 m_11) (fun r_13 m_13 => (if r_13 = 0 then rc v0 v1 v2 (v3 + (1 : Int32)) m_13 else rc v0 v1 (v2 + (1 : Int32)) (v3 + (1 : Int32)) m_13)))))) else rc v0 v1 v2 (v3 + (1 : Int32)) m))))))
def L_X9_rank_29 (N : Nat) : Nat → Nat → Int32 → Int32 → Int32 → Mem → Option (Int32 × Mem)
  | 0 => fun _ _ _ _ _ => none
  | n + 1 => T_X9_rank_29 N (L_X9_rank_29 N n)
def f_X9_rank (N : Nat) (v0 : Nat) (v1 : Int32) (m : Mem) : Option ((Int32 ⊕ Nat) × Mem) :=
  gd (kd v0 == 9) (x1 (f_X9_checkProposal N v0 v1 m) (fun m_2 => gd (kd (gR m_2 v0 3) == 5) (b1 (f_X5_update N (gR m_2 v0 3) (gR m_2 v0 7) (gR m_2 v0 1) m_2) (fun m_4 => x1 (f_X9_checkRanked N v0 v1 m_4) (fun m_5 => l2 (L_X9_rank_29 N N v0 v1 (0 : Int32) (0 : Int32) m_5) (fun v2_18 m_18 => some (.inl v2_18, m_18)))))))
def B_X9_ranked_73 (N : Nat) (rc : Nat → Int32 → Int32 → Int32 → Int32 → Mem → Option ((Mem) ⊕ (Int32 × Mem))) (v0 : Nat) (v1 : Int32) (v2 : Int32) (v3 : Int32) (v4 : Int32) (v5 : Int32) (m : Mem) : Option ((Mem) ⊕ (Int32 × Mem)) :=
  (if v3 = v2 then some (.inr ((v5, m))) else rc v0 v1 v2 (v3 + (1 : Int32)) (v4 + (1 : Int32)) m)
def T_X9_ranked_30 (N : Nat) (rc : Nat → Int32 → Int32 → Int32 → Int32 → Mem → Option ((Mem) ⊕ (Int32 × Mem))) (v0 : Nat) (v1 : Int32) (v2 : Int32) (v3 : Int32) (v4 : Int32) (m : Mem) : Option ((Mem) ⊕ (Int32 × Mem)) :=
  gd (kd v0 == 9) (gd (kd (gR m v0 3) == 5) ((if (gI m (gR m v0 3) 9) ≤ v4 then some (.inl (m)) else gd (okA 12 (gR m (gR m v0 3) 8) v4) ((if v1 = (-1 : Int32) then B_X9_ranked_73 N rc v0 v1 v2 v3 v4 (gI m (gR m (gR m v0 3) 8) v4.toNatClampNeg) m else gd (kd (gR m v0 7) == 6) (gd (okA 12 (gR m (gR m v0 7) 9) (gI m (gR m (gR m v0 3) 8) v4.toNatClampNeg)) ((if (gI m (gR m (gR m v0 7) 9) (gI m (gR m (gR m v0 3) 8) v4.toNatClampNeg).toNatClampNeg) = v1 then B_X9_ranked_73 N rc v0 v1 v2 v3 v4 (gI m (gR m (gR m v0 3) 8) v4.toNatClampNeg) m else rc v0 v1 v2 v3 (v4 + (1 : Int32)) m))))))))
def L_X9_ranked_30 (N : Nat) : Nat → Nat → Int32 → Int32 → Int32 → Int32 → Mem → Option ((Mem) ⊕ (Int32 × Mem))
  | 0 => fun _ _ _ _ _ _ => none
  | n + 1 => T_X9_ranked_30 N (L_X9_ranked_30 N n)
def B_X9_ranked_10 (N : Nat) (v0 : Nat) (v1 : Int32) (v2 : Int32) (m : Mem) : Option ((Int32 ⊕ Nat) × Mem) :=
  gd (kd v0 == 9) (gd (kd (gR m v0 3) == 5) (b1 (f_X5_update N (gR m v0 3) (gR m v0 7) (gR m v0 1) m) (fun m_3 => (L_X9_ranked_30 N N v0 v1 v2 (0 : Int32) (0 : Int32) m_3).bind (fun x9 => match x9 with | .inl (m_13) => some (.inr 2, m_13) | .inr ((v5_13, m_13)) => some (.inl v5_13, m_13)))))
def f_X9_ranked (N : Nat) (v0 : Nat) (v1 : Int32) (v2 : Int32) (m : Mem) : Option ((Int32 ⊕ Nat) × Mem) :=
  (if v1 = (-1 : Int32) then B_X9_ranked_10 N v0 v1 v2 m else gd (kd v0 == 9) (x1 (f_X9_checkPanel N v0 v1 m) (fun m_15 => B_X9_ranked_10 N v0 v1 v2 m_15)))
def f_X9_tieRound (N : Nat) (v0 : Nat) (v1 : Int32) (v2 : Int32) (m : Mem) : Option ((Int32 ⊕ Nat) × Mem) :=
  gd (kd v0 == 9) (x1 (f_X9_checkProposal N v0 v1 m) (fun m_2 => x1 (f_X9_checkProposal N v0 v2 m_2) (fun m_3 => (if v1 = v2 then some (.inr 1, m_3) else gd (kd (gR m_3 v0 3) == 5) (b1 (f_X5_update N (gR m_3 v0 3) (gR m_3 v0 7) (gR m_3 v0 1) m_3) (fun m_5 => x1 (f_X9_checkRanked N v0 v1 m_5) (fun m_6 => x1 (f_X9_checkRanked N v0 v2 m_6) (fun m_7 => gd (kd (gR m_7 v0 3) == 5) (b2 (f_X5_separation N (gR m_7 v0 3) v1 v2 m_7) (fun r_9 m_9 => some (.inl r_9, m_9)))))))))))
def B_X9_setLine_11 (N : Nat)  (m : Mem) : Option ((Int32 ⊕ Nat) × Mem) :=
  some (.inr 1, m)
def f_X9_setLine (N : Nat) (v0 : Nat) (v1 : Int32) (m : Mem) : Option ((Int32 ⊕ Nat) × Mem) :=
  (if v1 < 0 then B_X9_setLine_11 N  m else (if v1 ≤ (100000 : Int32) then gd (kd v0 == 9) (gd (kd (gR m v0 2) == 2) (b1 (f_X2_remember N (gR m v0 2) (gR m v0 1) m) (fun m_3 => gd (kd (gR m_3 v0 1) == 7) (wr (sI m_3 (gR m_3 v0 1) 3 v1) (fun m_5 => some (.inl (gI m_3 (gR m_3 v0 1) 3), m_5)))))) else B_X9_setLine_11 N  m))
def B_X9_checkMode_9 (N : Nat)  (m : Mem) : Option ((Unit ⊕ Nat) × Mem) :=
  some (.inr 1, m)
def f_X9_checkMode (N : Nat) (v0 : Int32) (m : Mem) : Option ((Unit ⊕ Nat) × Mem) :=
  (if v0 < 0 then B_X9_checkMode_9 N  m else (if v0 ≤ (2 : Int32) then some (.inl (), m) else B_X9_checkMode_9 N  m))
def f_X9_fund (N : Nat) (v0 : Nat) (v1 : Int32) (m : Mem) : Option (Mem) :=
  gd (kd v0 == 9) (gd (kd (gR m v0 3) == 5) (b1 (f_X5_update N (gR m v0 3) (gR m v0 7) (gR m v0 1) m) (fun m_3 => gd (kd (gR m_3 v0 1) == 7) (gd (kd (gR m_3 v0 4) == 1) (b1 (f_X1_distribute N (gR m_3 v0 4) (gR m_3 v0 7) (gR m_3 v0 3) v1 (gI m_3 (gR m_3 v0 1) 3) m_3) (fun m_6 => some (m_6)))))))
def f_X9_amount (N : Nat) (v0 : Nat) (v1 : Int32) (v2 : Int32) (m : Mem) : Option ((Int32 ⊕ Nat) × Mem) :=
  x1 (f_X9_checkMode N v1 m) (fun m_1 => gd (kd v0 == 9) (x1 (f_X9_checkProposal N v0 v2 m_1) (fun m_3 => b1 (f_X9_fund N v0 v1 m_3) (fun m_4 => gd (kd (gR m_4 v0 4) == 1) (gd (okA 12 (gR m_4 (gR m_4 v0 4) 0) v2) (some (.inl (gI m_4 (gR m_4 (gR m_4 v0 4) 0) v2.toNatClampNeg), m_4)))))))
def f_X9_left (N : Nat) (v0 : Nat) (v1 : Int32) (v2 : Int32) (m : Mem) : Option ((Int32 ⊕ Nat) × Mem) :=
  x1 (f_X9_checkMode N v1 m) (fun m_1 => gd (kd v0 == 9) (x1 (f_X9_checkPanel N v0 v2 m_1) (fun m_3 => b1 (f_X9_fund N v0 v1 m_3) (fun m_4 => gd (kd (gR m_4 v0 4) == 1) (gd (okA 12 (gR m_4 (gR m_4 v0 4) 1) v2) (some (.inl (gI m_4 (gR m_4 (gR m_4 v0 4) 1) v2.toNatClampNeg), m_4)))))))
def f_X9_poolLeft (N : Nat) (v0 : Nat) (v1 : Int32) (m : Mem) : Option ((Int32 ⊕ Nat) × Mem) :=
  x1 (f_X9_checkMode N v1 m) (fun m_1 => gd (kd v0 == 9) (b1 (f_X9_fund N v0 v1 m_1) (fun m_3 => gd (kd (gR m_3 v0 4) == 1) (some (.inl (gI m_3 (gR m_3 v0 4) 2), m_3)))))
def f_X9_funded (N : Nat) (v0 : Nat) (v1 : Int32) (m : Mem) : Option ((Int32 ⊕ Nat) × Mem) :=
  x1 (f_X9_checkMode N v1 m) (fun m_1 => gd (kd v0 == 9) (b1 (f_X9_fund N v0 v1 m_1) (fun m_3 => gd (kd (gR m_3 v0 7) == 6) (gd (kd (gR m_3 v0 4) == 1) (b2 (f_X1_winners N (gR m_3 v0 4) (gI m_3 (gR m_3 v0 7) 2) m_3) (fun r_6 m_6 => some (.inl r_6, m_6)))))))
def T_X9_bestSum_29 (N : Nat) (rc : Nat → Int32 → Int32 → Mem → Option (Nat × Int32 × Mem)) (v0 : Nat) (v1 : Int32) (v2 : Int32) (m : Mem) : Option (Nat × Int32 × Mem) :=
  gd (kd v0 == 9) (gd (kd (gR m v0 3) == 5) ((if (gI m (gR m v0 3) 9) ≤ v2 then some ((v0, v1, m)) else gd (okA 12 (gR m (gR m v0 3) 8) v2) (gd (kd (gR m v0 7) == 6) (gd (okA 12 (gR m (gR m v0 7) 9) (gI m (gR m (gR m v0 3) 8) v2.toNatClampNeg)) ((if (gI m (gR m (gR m v0 7) 9) (gI m (gR m (gR m v0 3) 8) v2.toNatClampNeg).toNatClampNeg) = v1 then gd (okA 12 (gR m (gR m v0 3) 4) (gI m (gR m (gR m v0 3) 8) v2.toNatClampNeg)) (gd (kd (gR m v0 1) == 7) ((if (gI m (gR m (gR m v0 3) 4) (gI m (gR m (gR m v0 3) 8) v2.toNatClampNeg).toNatClampNeg) < (gI m (gR m v0 1) 3) then rc v0 v1 (v2 + (1 : Int32)) m else gd (okA 12 (gR m (gR m v0 7) 12) (gI m (gR m (gR m v0 3) 8) v2.toNatClampNeg)) (gd (kd (gR m v0 6) == 3) (b1 (f_X3_offer N (gR m v0 6) (gI m (gR m (gR m v0 7) 12) (gI m (gR m (gR m v0 3) 8) v2.toNatClampNeg).toNatClampNeg) (gI m (gR m (gR m v0 3) 4) (gI m (gR m (gR m v0 3) 8) v2.toNatClampNeg).toNatClampNeg) m) (fun m_16 => rc v0 v1 (v2 + (1 : Int32)) m_16)))))) else rc v0 v1 (v2 + (1 : Int32)) m)))))))
def L_X9_bestSum_29 (N : Nat) : Nat → Nat → Int32 → Int32 → Mem → Option (Nat × Int32 × Mem)
  | 0 => fun _ _ _ _ => none
  | n + 1 => T_X9_bestSum_29 N (L_X9_bestSum_29 N n)
def f_X9_bestSum (N : Nat) (v0 : Nat) (v1 : Int32) (m : Mem) : Option ((Int32 ⊕ Nat) × Mem) :=
  gd (kd v0 == 9) (x1 (f_X9_checkPanel N v0 v1 m) (fun m_2 => gd (kd (gR m_2 v0 3) == 5) (b1 (f_X5_update N (gR m_2 v0 3) (gR m_2 v0 7) (gR m_2 v0 1) m_2) (fun m_4 => gd (kd (gR m_4 v0 6) == 3) (b1 (f_X3_clear N (gR m_4 v0 6) m_4) (fun m_6 => l3 (L_X9_bestSum_29 N N v0 v1 (0 : Int32) m_6) (fun v0_20 v1_20 m_20 => gd (kd v0_20 == 9) (gd (kd (gR m_20 v0_20 7) == 6) (gd (okA 12 (gR m_20 (gR m_20 v0_20 7) 3) v1_20) (gd (kd (gR m_20 v0_20 6) == 3) (b2 (f_X3_best N (gR m_20 v0_20 6) (gI m_20 (gR m_20 (gR m_20 v0_20 7) 3) v1_20.toNatClampNeg) m_20) (fun r_25 m_25 => some (.inl r_25, m_25)))))))))))))
def B_X9_lineFor_15 (N : Nat)  (m : Mem) : Option ((Int32 ⊕ Nat) × Mem) :=
  some (.inr 1, m)
def T_X9_lineFor_43 (N : Nat) (rc : Nat → Int32 → Int32 → Int32 → Mem → Option ((Mem) ⊕ (Mem) ⊕ (Int32 × Mem))) (v0 : Nat) (v1 : Int32) (v2 : Int32) (v3 : Int32) (m : Mem) : Option ((Mem) ⊕ (Mem) ⊕ (Int32 × Mem)) :=
  gd (kd v0 == 9) (gd (kd (gR m v0 3) == 5) ((if (gI m (gR m v0 3) 9) ≤ v3 then some (.inl (m)) else gd (okA 12 (gR m (gR m v0 3) 8) v3) (gd (okA 12 (gR m (gR m v0 3) 4) (gI m (gR m (gR m v0 3) 8) v3.toNatClampNeg)) ((if 0 ≤ (if (100000 : Int32) < (gI m (gR m (gR m v0 3) 4) (gI m (gR m (gR m v0 3) 8) v3.toNatClampNeg).toNatClampNeg) then (100000 : Int32) else (gI m (gR m (gR m v0 3) 4) (gI m (gR m (gR m v0 3) 8) v3.toNatClampNeg).toNatClampNeg)) then gd (kd (gR m v0 4) == 1) (b1 (f_X1_distribute N (gR m v0 4) (gR m v0 7) (gR m v0 3) v1 (if (100000 : Int32) < (gI m (gR m (gR m v0 3) 4) (gI m (gR m (gR m v0 3) 8) v3.toNatClampNeg).toNatClampNeg) then (100000 : Int32) else (gI m (gR m (gR m v0 3) 4) (gI m (gR m (gR m v0 3) 8) v3.toNatClampNeg).toNatClampNeg)) m) (fun m_10 => gd (kd (gR m_10 v0 7) == 6) (gd (kd (gR m_10 v0 4) == 1) (b2 (f_X1_winners N (gR m_10 v0 4) (gI m_10 (gR m_10 v0 7) 2) m_10) (fun r_13 m_13 => b2 (f_J6_bitCount_0f7a4 N r_13 m_13) (fun r_14 m_14 => (if r_14 < v2 then rc v0 v1 v2 (v3 + (1 : Int32)) m_14 else some (.inr (.inr (((if (100000 : Int32) < (gI m (gR m (gR m v0 3) 4) (gI m (gR m (gR m v0 3) 8) v3.toNatClampNeg).toNatClampNeg) then (100000 : Int32) else (gI m (gR m (gR m v0 3) 4) (gI m (gR m (gR m v0 3) 8) v3.toNatClampNeg).toNatClampNeg)), m_14))))))))))) else some (.inr (.inl (m)))))))))
def L_X9_lineFor_43 (N : Nat) : Nat → Nat → Int32 → Int32 → Int32 → Mem → Option ((Mem) ⊕ (Mem) ⊕ (Int32 × Mem))
  | 0 => fun _ _ _ _ _ => none
  | n + 1 => T_X9_lineFor_43 N (L_X9_lineFor_43 N n)
def f_X9_lineFor (N : Nat) (v0 : Nat) (v1 : Int32) (v2 : Int32) (m : Mem) : Option ((Int32 ⊕ Nat) × Mem) :=
  x1 (f_X9_checkMode N v1 m) (fun m_1 => (if v2 < (1 : Int32) then B_X9_lineFor_15 N  m_1 else (if v2 ≤ (16 : Int32) then gd (kd v0 == 9) (gd (kd (gR m_1 v0 3) == 5) (b1 (f_X5_update N (gR m_1 v0 3) (gR m_1 v0 7) (gR m_1 v0 1) m_1) (fun m_4 => (L_X9_lineFor_43 N N v0 v1 v2 (0 : Int32) m_4).bind (fun x9 => match x9 with | .inl (m_18) => some (.inl (-1 : Int32), m_18) | .inr (.inl (m_18)) => some (.inl (-1 : Int32), m_18) | .inr (.inr ((v4_18, m_18))) => some (.inl v4_18, m_18))))) else B_X9_lineFor_15 N  m_1)))
def T_X9_appeal_20 (N : Nat) (rc : Nat → Int32 → Int32 → Int32 → Int32 → Int32 → Mem → Option (Nat × Int32 × Int32 × Int32 × Int32 × Mem)) (v0 : Nat) (v1 : Int32) (v2 : Int32) (v3 : Int32) (v4 : Int32) (v5 : Int32) (m : Mem) : Option (Nat × Int32 × Int32 × Int32 × Int32 × Mem) :=
  gd (kd v0 == 9) (gd (kd (gR m v0 7) == 6) ((if (gI m (gR m v0 7) 1) ≤ v5 then some ((v0, v1, v2, v3, v4, m)) else (if v5 = v1 then rc v0 v1 v2 v3 v4 (v5 + (1 : Int32)) m else gd (kd (gR m v0 1) == 7) (b2 (f_X7_hasScore N (gR m v0 1) v5 v2 m) (fun r_7 m_7 => (if r_7 = 0 then rc v0 v1 v2 v3 v4 (v5 + (1 : Int32)) m_7 else gd (kd (gR m_7 v0 1) == 7) (b2 (f_X7_scoreAt N (gR m_7 v0 1) v5 v2 m_7) (fun r_9 m_9 => rc v0 v1 v2 (v3 + (1 : Int32)) (v4 + r_9) (v5 + (1 : Int32)) m_9)))))))))
def L_X9_appeal_20 (N : Nat) : Nat → Nat → Int32 → Int32 → Int32 → Int32 → Int32 → Mem → Option (Nat × Int32 × Int32 × Int32 × Int32 × Mem)
  | 0 => fun _ _ _ _ _ _ _ => none
  | n + 1 => T_X9_appeal_20 N (L_X9_appeal_20 N n)
def B_X9_appeal_90 (N : Nat)  (m : Mem) : Option ((Int32 ⊕ Nat) × Mem) :=
  some (.inr 0, m)
def f_X9_appeal (N : Nat) (v0 : Nat) (v1 : Int32) (v2 : Int32) (m : Mem) : Option ((Int32 ⊕ Nat) × Mem) :=
  gd (kd v0 == 9) (x1 (f_X9_checkPair N v0 v1 v2 m) (fun m_2 => x1 (f_X9_checkScore N v0 v1 v2 m_2) (fun m_3 => l6 (L_X9_appeal_20 N N v0 v1 v2 (0 : Int32) (0 : Int32) (0 : Int32) m_3) (fun v0_13 v1_13 v2_13 v3_13 v4_13 m_13 => (if v3_13 = 0 then B_X9_appeal_90 N  m_13 else gd (kd v0_13 == 9) (gd (kd (gR m_13 v0_13 1) == 7) (b2 (f_X7_isGranted N (gR m_13 v0_13 1) v2_13 m_13) (fun r_16 m_16 => (if r_16 = 0 then gd (kd (gR m_16 v0_13 1) == 7) (b2 (f_X7_scoreAt N (gR m_16 v0_13 1) v1_13 v2_13 m_16) (fun r_18 m_18 => gd (kd (gR m_18 v0_13 7) == 6) ((if (v3_13 * (gI m_18 (gR m_18 v0_13 7) 15)) < (if 0 ≤ ((v3_13 * r_18) - v4_13) then ((v3_13 * r_18) - v4_13) else 0 - ((v3_13 * r_18) - v4_13)) then gd (kd (gR m_18 v0_13 2) == 2) (b1 (f_X2_remember N (gR m_18 v0_13 2) (gR m_18 v0_13 1) m_18) (fun m_21 => gd (kd (gR m_21 v0_13 1) == 7) (b1 (f_X7_put N (gR m_21 v0_13 1) v1_13 v2_13 (0 : Int32) m_21) (fun m_23 => gd (kd (gR m_23 v0_13 1) == 7) (b1 (f_X7_addConflict N (gR m_23 v0_13 1) v1_13 v2_13 m_23) (fun m_25 => gd (kd (gR m_25 v0_13 1) == 7) (b1 (f_X7_grantAppeal N (gR m_25 v0_13 1) v2_13 m_25) (fun m_27 => gd (isB (1 : Int32)) (some (.inl (1 : Int32), m_27)))))))))) else gd (isB (0 : Int32)) (some (.inl (0 : Int32), m_18)))))) else B_X9_appeal_90 N  m_16)))))))))
def f_X9_undo (N : Nat) (v0 : Nat) (m : Mem) : Option ((Int32 ⊕ Nat) × Mem) :=
  gd (kd v0 == 9) (gd (kd (gR m v0 2) == 2) ((if (gI m (gR m v0 2) 2) = 0 then some (.inr 0, m) else b1 (f_X2_restore N (gR m v0 2) (gR m v0 1) m) (fun m_3 => gd (kd (gR m_3 v0 2) == 2) (some (.inl (gI m_3 (gR m_3 v0 2) 2), m_3))))))
def f_X10_thrown (N : Nat) (v0 : Nat) (m : Mem) : Option (Int32 × Mem) :=
  gd (kd v0 == 10) (some (gI m v0 0, m))
def B_X10_in_14 (N : Nat)  (m : Mem) : Option (Int32 × Mem) :=
  gd (isB (0 : Int32)) (some ((0 : Int32), m))
def f_X10_in (N : Nat) (v0 : Int32) (v1 : Int32) (v2 : Int32) (m : Mem) : Option (Int32 × Mem) :=
  (if v0 < v1 then B_X10_in_14 N  m else (if v2 < v0 then B_X10_in_14 N  m else gd (isB (1 : Int32)) (some ((1 : Int32), m))))
def f_X10_has (N : Nat) (v0 : Int32) (v1 : Int32) (m : Mem) : Option (Int32 × Mem) :=
  (if ((v0 >>> (v1 &&& 31)) &&& (1 : Int32)) = (1 : Int32) then gd (isB (1 : Int32)) (some ((1 : Int32), m)) else gd (isB (0 : Int32)) (some ((0 : Int32), m)))
def T_X10_bits_4 (N : Nat) (rc : Int32 → Int32 → Mem → Option (Int32 × Mem)) (v1 : Int32) (v2 : Int32) (m : Mem) : Option (Int32 × Mem) :=
  (if v2 = 0 then some ((v1, m)) else rc (v1 + (1 : Int32)) (v2 &&& (v2 - (1 : Int32))) m)
def L_X10_bits_4 (N : Nat) : Nat → Int32 → Int32 → Mem → Option (Int32 × Mem)
  | 0 => fun _ _ _ => none
  | n + 1 => T_X10_bits_4 N (L_X10_bits_4 N n)
def f_X10_bits (N : Nat) (v0 : Int32) (m : Mem) : Option (Int32 × Mem) :=
  l2 (L_X10_bits_4 N N (0 : Int32) v0 m) (fun v1_2 m_2 => some (v1_2, m_2))
def f_X10_fails (N : Nat) (v0 : Nat) (v1 : Int32) (m : Mem) : Option (Int32 × Mem) :=
  gd (kd v0 == 10) (wr (sI m v0 0 v1) (fun m_2 => some ((0 : Int32), m_2)))
def f_X10_isPanel (N : Nat) (v0 : Nat) (v1 : Int32) (m : Mem) : Option (Int32 × Mem) :=
  gd (kd v0 == 10) (gd (okA 12 (gR m v0 1) (0 : Int32)) (b2 (f_X10_in N v1 (0 : Int32) ((gI m (gR m v0 1) (0 : Int32).toNatClampNeg) - (1 : Int32)) m) (fun r_3 m_3 => gd (isB r_3) (some (r_3, m_3)))))
def f_X10_isReviewer (N : Nat) (v0 : Nat) (v1 : Int32) (m : Mem) : Option (Int32 × Mem) :=
  gd (kd v0 == 10) (gd (okA 12 (gR m v0 1) (1 : Int32)) (b2 (f_X10_in N v1 (0 : Int32) ((gI m (gR m v0 1) (1 : Int32).toNatClampNeg) - (1 : Int32)) m) (fun r_3 m_3 => gd (isB r_3) (some (r_3, m_3)))))
def f_X10_isProposal (N : Nat) (v0 : Nat) (v1 : Int32) (m : Mem) : Option (Int32 × Mem) :=
  gd (kd v0 == 10) (gd (okA 12 (gR m v0 1) (2 : Int32)) (b2 (f_X10_in N v1 (0 : Int32) ((gI m (gR m v0 1) (2 : Int32).toNatClampNeg) - (1 : Int32)) m) (fun r_3 m_3 => gd (isB r_3) (some (r_3, m_3)))))
def f_X10_reviewer (N : Nat) (v0 : Nat) (v1 : Int32) (v2 : Int32) (m : Mem) : Option (Int32 × Mem) :=
  gd (kd v0 == 10) (gd (okA 12 (gR m v0 1) (((11 : Int32) + ((4 : Int32) * v1)) + v2)) (some (gI m (gR m v0 1) (((11 : Int32) + ((4 : Int32) * v1)) + v2).toNatClampNeg, m)))
def f_X10_proposal (N : Nat) (v0 : Nat) (v1 : Int32) (v2 : Int32) (m : Mem) : Option (Int32 × Mem) :=
  gd (kd v0 == 10) (gd (okA 12 (gR m v0 1) (((59 : Int32) + ((5 : Int32) * v1)) + v2)) (some (gI m (gR m v0 1) (((59 : Int32) + ((5 : Int32) * v1)) + v2).toNatClampNeg, m)))
def T_X10_four_3 (N : Nat) (rc : Nat → Int32 → Int32 → Mem → Option (Mem)) (v0 : Nat) (v1 : Int32) (v2 : Int32) (m : Mem) : Option (Mem) :=
  (if v2 < 0 then some (m) else gd (kd v0 == 10) (gd (okA 12 (gR m v0 6) (gI m v0 7)) (wr (sI m (gR m v0 6) (gI m v0 7).toNatClampNeg ((v1 >>> (v2 &&& 31)) &&& (255 : Int32))) (fun m_3 => wr (sI m_3 v0 7 ((gI m_3 v0 7) + (1 : Int32))) (fun m_4 => rc v0 v1 (v2 + (-8 : Int32)) m_4)))))
def L_X10_four_3 (N : Nat) : Nat → Nat → Int32 → Int32 → Mem → Option (Mem)
  | 0 => fun _ _ _ _ => none
  | n + 1 => T_X10_four_3 N (L_X10_four_3 N n)
def f_X10_four (N : Nat) (v0 : Nat) (v1 : Int32) (m : Mem) : Option (Mem) :=
  l1 (L_X10_four_3 N N v0 v1 (24 : Int32) m) (fun  m_6 => some (m_6))
def f_X10_append (N : Nat) (v0 : Nat) (v1 : Int32) (v2 : Int32) (v3 : Int32) (v4 : Int32) (v5 : Int32) (m : Mem) : Option (Int32 × Mem) :=
  gd (kd v0 == 10) (wr (sI m v0 0 (0 : Int32)) (fun m_2 => (if ((gI m_2 v0 7) + (20 : Int32)) ≤ (800 : Int32) then b1 (f_X10_four N v0 v1 m_2) (fun m_3 => b1 (f_X10_four N v0 v2 m_3) (fun m_4 => b1 (f_X10_four N v0 v3 m_4) (fun m_5 => b1 (f_X10_four N v0 v4 m_5) (fun m_6 => b1 (f_X10_four N v0 v5 m_6) (fun m_7 => some (gI m_7 v0 7, m_7)))))) else b2 (f_X10_fails N v0 (1 : Int32) m_2) (fun r_8 m_8 => some (r_8, m_8)))))
def f_X10_truncate (N : Nat) (v0 : Nat) (v1 : Int32) (m : Mem) : Option (Int32 × Mem) :=
  gd (kd v0 == 10) (wr (sI m v0 0 (0 : Int32)) (fun m_2 => b2 (f_X10_in N v1 (0 : Int32) (gI m_2 v0 7) m_2) (fun r_3 m_3 => (if r_3 = 0 then b2 (f_X10_fails N v0 (1 : Int32) m_3) (fun r_5 m_5 => some (r_5, m_5)) else wr (sI m_3 v0 7 v1) (fun m_4 => some (gI m_4 v0 7, m_4))))))
def B_X10_here_39 (N : Nat) (rc : Nat → Mem → Option (Nat × Mem)) (v0 : Nat) (m : Mem) : Option (Nat × Mem) :=
  gd (kd v0 == 10) (wr (sI m v0 8 ((gI m v0 8) + (1 : Int32))) (fun m_4 => rc v0 m_4))
def T_X10_here_0 (N : Nat) (rc : Nat → Mem → Option (Nat × Mem)) (v0 : Nat) (m : Mem) : Option (Nat × Mem) :=
  gd (kd v0 == 10) ((if (gI m v0 7) ≤ (gI m v0 8) then some ((v0, m)) else gd (okA 12 (gR m v0 6) (gI m v0 8)) ((if (gI m (gR m v0 6) (gI m v0 8).toNatClampNeg) = (32 : Int32) then B_X10_here_39 N rc v0 m else (if (gI m (gR m v0 6) (gI m v0 8).toNatClampNeg) = (10 : Int32) then B_X10_here_39 N rc v0 m else some ((v0, m)))))))
def L_X10_here_0 (N : Nat) : Nat → Nat → Mem → Option (Nat × Mem)
  | 0 => fun _ _ => none
  | n + 1 => T_X10_here_0 N (L_X10_here_0 N n)
def B_X10_here_52 (N : Nat) (v0 : Nat) (m : Mem) : Option (Int32 × Mem) :=
  gd (kd v0 == 10) ((if (gI m v0 7) ≤ (gI m v0 8) then some ((-1 : Int32), m) else gd (okA 12 (gR m v0 6) (gI m v0 8)) (some (gI m (gR m v0 6) (gI m v0 8).toNatClampNeg, m))))
def f_X10_here (N : Nat) (v0 : Nat) (m : Mem) : Option (Int32 × Mem) :=
  l2 (L_X10_here_0 N N v0 m) (fun v0_8 m_8 => B_X10_here_52 N v0_8 m_8)
def f_X10_wrong (N : Nat) (v0 : Nat) (v1 : Int32) (v2 : Int32) (m : Mem) : Option (Mem) :=
  gd (kd v0 == 10) ((if (gI m v0 11) = 0 then gd (isB (1 : Int32)) (wr (sI m v0 11 (1 : Int32)) (fun m_3 => wr (sI m_3 v0 9 v1) (fun m_4 => wr (sI m_4 v0 10 v2) (fun m_5 => some (m_5))))) else some (m)))
def T_X10_wordEnd_5 (N : Nat) (rc : Nat → Int32 → Mem → Option (Int32 × Mem)) (v0 : Nat) (v1 : Int32) (m : Mem) : Option (Int32 × Mem) :=
  gd (kd v0 == 10) ((if (gI m v0 7) ≤ v1 then some ((v1, m)) else gd (okA 12 (gR m v0 6) v1) (b2 (f_X10_in N (gI m (gR m v0 6) v1.toNatClampNeg) (97 : Int32) (122 : Int32) m) (fun r_4 m_4 => (if r_4 = 0 then some ((v1, m_4)) else rc v0 (v1 + (1 : Int32)) m_4)))))
def L_X10_wordEnd_5 (N : Nat) : Nat → Nat → Int32 → Mem → Option (Int32 × Mem)
  | 0 => fun _ _ _ => none
  | n + 1 => T_X10_wordEnd_5 N (L_X10_wordEnd_5 N n)
def f_X10_wordEnd (N : Nat) (v0 : Nat) (m : Mem) : Option (Int32 × Mem) :=
  gd (kd v0 == 10) (l2 (L_X10_wordEnd_5 N N v0 (gI m v0 8) m) (fun v1_7 m_7 => some (v1_7, m_7)))
def T_X10_word_13 (N : Nat) (rc : Nat → Int64 → Int32 → Int32 → Mem → Option (Int64 × Mem)) (v0 : Nat) (v1 : Int64) (v3 : Int32) (v4 : Int32) (m : Mem) : Option (Int64 × Mem) :=
  (if v3 ≤ v4 then some ((v1, m)) else gd (kd v0 == 10) ((if (v3 - (gI m v0 8)) ≤ (9 : Int32) then gd (okA 12 (gR m v0 6) v4) (rc v0 ((((27 : Int64) * v1) + ((gI m (gR m v0 6) v4.toNatClampNeg).toInt64)) - (96 : Int64)) v3 (v4 + (1 : Int32)) m) else rc v0 (-1 : Int64) v3 (v4 + (1 : Int32)) m)))
def L_X10_word_13 (N : Nat) : Nat → Nat → Int64 → Int32 → Int32 → Mem → Option (Int64 × Mem)
  | 0 => fun _ _ _ _ _ => none
  | n + 1 => T_X10_word_13 N (L_X10_word_13 N n)
def f_X10_word (N : Nat) (v0 : Nat) (m : Mem) : Option (Int64 × Mem) :=
  gd (kd v0 == 10) (b2 (f_X10_wordEnd N v0 m) (fun r_2 m_2 => l2 (L_X10_word_13 N N v0 (0 : Int64) r_2 (gI m_2 v0 8) m_2) (fun v1_7 m_7 => some (v1_7, m_7))))
def B_X10_number_99 (N : Nat) (rc : Nat → Int32 → Int32 → Int32 → Int32 → Int32 → Mem → Option (Nat × Int32 × Int32 × Int32 × Int32 × Int32 × Mem)) (v0 : Nat) (v1 : Int32) (v2 : Int32) (v3 : Int32) (v4 : Int32) (s0 : Int32) (m : Mem) : Option (Nat × Int32 × Int32 × Int32 × Int32 × Int32 × Mem) :=
  gd (kd v0 == 10) (wr (sI m v0 8 ((gI m v0 8) + (1 : Int32))) (fun m_8 => rc v0 v1 v2 v3 v4 s0 m_8))
def T_X10_number_30 (N : Nat) (rc : Nat → Int32 → Int32 → Int32 → Int32 → Int32 → Mem → Option (Nat × Int32 × Int32 × Int32 × Int32 × Int32 × Mem)) (v0 : Nat) (v1 : Int32) (v2 : Int32) (v3 : Int32) (v4 : Int32) (v5 : Int32) (m : Mem) : Option (Nat × Int32 × Int32 × Int32 × Int32 × Int32 × Mem) :=
  (if v3 = 0 then some ((v0, v1, v2, v3, v4, v5, m)) else gd (kd v0 == 10) ((if (gI m v0 7) ≤ (gI m v0 8) then some ((v0, v1, v2, v3, v4, v5, m)) else gd (okA 12 (gR m v0 6) (gI m v0 8)) (b2 (f_X10_in N (gI m (gR m v0 6) (gI m v0 8).toNatClampNeg) (48 : Int32) (57 : Int32) m) (fun r_6 m_6 => (if r_6 = 0 then some ((v0, v1, v2, v3, v4, v5, m_6)) else (if (6 : Int32) ≤ ((gI m_6 v0 8) - v4) then B_X10_number_99 N rc v0 v1 v2 v3 v4 v5 m_6 else gd (okA 12 (gR m_6 v0 6) (gI m_6 v0 8)) (B_X10_number_99 N rc v0 v1 v2 v3 v4 ((((10 : Int32) * v5) + (gI m_6 (gR m_6 v0 6) (gI m_6 v0 8).toNatClampNeg)) - (48 : Int32)) m_6))))))))
def L_X10_number_30 (N : Nat) : Nat → Nat → Int32 → Int32 → Int32 → Int32 → Int32 → Mem → Option (Nat × Int32 × Int32 × Int32 × Int32 × Int32 × Mem)
  | 0 => fun _ _ _ _ _ _ _ => none
  | n + 1 => T_X10_number_30 N (L_X10_number_30 N n)
def B_X10_number_157 (N : Nat) (v0 : Nat) (v5 : Int32) (m : Mem) : Option (Int32 × Mem) :=
  gd (kd v0 == 10) ((if (gI m v0 11) = 0 then some (v5, m) else some ((0 : Int32), m)))
def B_X10_number_130 (N : Nat) (v0 : Nat) (v4 : Int32) (v5 : Int32) (m : Mem) : Option (Int32 × Mem) :=
  gd (kd v0 == 10) (b1 (f_X10_wrong N v0 (1 : Int32) v4 m) (fun m_16 => B_X10_number_157 N v0 v5 m_16))
def B_X10_number_114 (N : Nat) (v0 : Nat) (v1 : Int32) (v2 : Int32) (v3 : Int32) (v4 : Int32) (v5 : Int32) (m : Mem) : Option (Int32 × Mem) :=
  (if v3 = 0 then B_X10_number_130 N v0 v4 v5 m else gd (kd v0 == 10) ((if ((gI m v0 8) - v4) ≤ (6 : Int32) then b2 (f_X10_in N v5 v1 v2 m) (fun r_20 m_20 => (if r_20 = 0 then b1 (f_X10_wrong N v0 (2 : Int32) v4 m_20) (fun m_21 => B_X10_number_157 N v0 v5 m_21) else B_X10_number_157 N v0 v5 m_20)) else B_X10_number_130 N v0 v4 v5 m)))
def f_X10_number (N : Nat) (v0 : Nat) (v1 : Int32) (v2 : Int32) (m : Mem) : Option (Int32 × Mem) :=
  gd (kd v0 == 10) ((if (gI m v0 11) = 0 then b2 (f_X10_here N v0 m) (fun r_2 m_2 => b2 (f_X10_in N r_2 (48 : Int32) (57 : Int32) m_2) (fun r_3 m_3 => l7 (L_X10_number_30 N N v0 v1 v2 r_3 (gI m_3 v0 8) (0 : Int32) m_3) (fun v0_14 v1_14 v2_14 v3_14 v4_14 v5_14 m_14 => B_X10_number_114 N v0_14 v1_14 v2_14 v3_14 v4_14 v5_14 m_14))) else some ((0 : Int32), m)))
def f_X10_takes (N : Nat) (v0 : Nat) (v1 : Int64) (m : Mem) : Option (Int32 × Mem) :=
  gd (kd v0 == 10) ((if (gI m v0 11) = 0 then b2 (f_X10_here N v0 m) (fun r_3 m_3 => (if r_3 = (-1 : Int32) then gd (isB (0 : Int32)) (some ((0 : Int32), m_3)) else b2 (f_X10_word N v0 m_3) (fun r_5 m_5 => (if (lg_cmp r_5 v1) = 0 then b2 (f_X10_wordEnd N v0 m_5) (fun r_6 m_6 => wr (sI m_6 v0 8 r_6) (fun m_7 => gd (isB (1 : Int32)) (some ((1 : Int32), m_7)))) else gd (isB (0 : Int32)) (some ((0 : Int32), m_5)))))) else gd (isB (0 : Int32)) (some ((0 : Int32), m))))
def f_X10_adds (N : Nat) (v0 : Nat) (v1 : Int32) (v2 : Int32) (m : Mem) : Option (Int32 × Mem) :=
  gd (kd v0 == 10) (gd (okA 12 (gR m v0 2) v1) ((if (gI m (gR m v0 2) v1.toNatClampNeg) = v2 then b1 (f_X10_wrong N v0 (3 : Int32) (gI m v0 8) m) (fun m_6 => gd (isB (0 : Int32)) (some ((0 : Int32), m_6))) else b2 (f_X10_wordEnd N v0 m) (fun r_3 m_3 => wr (sI m_3 v0 8 r_3) (fun m_4 => gd (isB (1 : Int32)) (some ((1 : Int32), m_4)))))))
def f_X10_panelLine (N : Nat) (v0 : Nat) (m : Mem) : Option (Mem) :=
  gd (kd v0 == 10) (b2 (f_X10_adds N v0 (0 : Int32) (4 : Int32) m) (fun r_2 m_2 => (if r_2 = 0 then some (m_2) else gd (okA 12 (gR m_2 v0 2) (0 : Int32)) (b2 (f_X10_number N v0 (0 : Int32) (100000 : Int32) m_2) (fun r_4 m_4 => gd (okA 12 (gR m_2 v0 2) ((7 : Int32) + (gI m_2 (gR m_2 v0 2) (0 : Int32).toNatClampNeg))) (wr (sI m_4 (gR m_2 v0 2) ((7 : Int32) + (gI m_2 (gR m_2 v0 2) (0 : Int32).toNatClampNeg)).toNatClampNeg r_4) (fun m_6 => gd (okA 12 (gR m_6 v0 2) (0 : Int32)) (wr (sI m_6 (gR m_6 v0 2) (0 : Int32).toNatClampNeg ((gI m_6 (gR m_6 v0 2) (0 : Int32).toNatClampNeg) + (1 : Int32))) (fun m_8 => some (m_8))))))))))
def T_X10_reviewerLine_110 (N : Nat) (rc : Nat → Int32 → Int32 → Mem → Option (Nat × Int32 × Int32 × Mem)) (v0 : Nat) (v1 : Int32) (v2 : Int32) (m : Mem) : Option (Nat × Int32 × Int32 × Mem) :=
  gd (kd v0 == 10) ((if (gI m v0 11) = 0 then b2 (f_X10_here N v0 m) (fun r_17 m_17 => b2 (f_X10_in N r_17 (48 : Int32) (57 : Int32) m_17) (fun r_18 m_18 => (if r_18 = 0 then some ((v0, v1, v2, m_18)) else b2 (f_X10_number N v0 (0 : Int32) (7 : Int32) m_18) (fun r_19 m_19 => rc v0 v1 (v2 ||| ((1 : Int32) <<< (r_19 &&& 31))) m_19)))) else some ((v0, v1, v2, m))))
def L_X10_reviewerLine_110 (N : Nat) : Nat → Nat → Int32 → Int32 → Mem → Option (Nat × Int32 × Int32 × Mem)
  | 0 => fun _ _ _ _ => none
  | n + 1 => T_X10_reviewerLine_110 N (L_X10_reviewerLine_110 N n)
def B_X10_reviewerLine_146 (N : Nat) (v0 : Nat) (v1 : Int32) (v2 : Int32) (m : Mem) : Option (Mem) :=
  gd (kd v0 == 10) (gd (okA 12 (gR m v0 2) (v1 + (3 : Int32))) (wr (sI m (gR m v0 2) (v1 + (3 : Int32)).toNatClampNeg v2) (fun m_25 => gd (okA 12 (gR m_25 v0 2) (1 : Int32)) (wr (sI m_25 (gR m_25 v0 2) (1 : Int32).toNatClampNeg ((gI m_25 (gR m_25 v0 2) (1 : Int32).toNatClampNeg) + (1 : Int32))) (fun m_27 => some (m_27))))))
def B_X10_reviewerLine_100 (N : Nat) (v0 : Nat) (v1 : Int32) (m : Mem) : Option (Mem) :=
  gd (kd v0 == 10) (b2 (f_X10_number N v0 (0 : Int32) (7 : Int32) m) (fun r_15 m_15 => l4 (L_X10_reviewerLine_110 N N v0 v1 ((1 : Int32) <<< (r_15 &&& 31)) m_15) (fun v0_22 v1_22 v2_22 m_22 => B_X10_reviewerLine_146 N v0_22 v1_22 v2_22 m_22)))
def f_X10_reviewerLine (N : Nat) (v0 : Nat) (m : Mem) : Option (Mem) :=
  gd (kd v0 == 10) (b2 (f_X10_adds N v0 (1 : Int32) (12 : Int32) m) (fun r_2 m_2 => (if r_2 = 0 then some (m_2) else gd (okA 12 (gR m_2 v0 2) (1 : Int32)) (gd (okA 12 (gR m_2 v0 2) (0 : Int32)) (b2 (f_X10_number N v0 (0 : Int32) ((gI m_2 (gR m_2 v0 2) (0 : Int32).toNatClampNeg) - (1 : Int32)) m_2) (fun r_5 m_5 => gd (okA 12 (gR m_2 v0 2) (((11 : Int32) + ((4 : Int32) * (gI m_2 (gR m_2 v0 2) (1 : Int32).toNatClampNeg))) + (0 : Int32))) (wr (sI m_5 (gR m_2 v0 2) (((11 : Int32) + ((4 : Int32) * (gI m_2 (gR m_2 v0 2) (1 : Int32).toNatClampNeg))) + (0 : Int32)).toNatClampNeg r_5) (fun m_7 => b2 (f_X10_number N v0 (0 : Int32) (9 : Int32) m_7) (fun r_8 m_8 => gd (okA 12 (gR m_7 v0 2) (((11 : Int32) + ((4 : Int32) * (gI m_2 (gR m_2 v0 2) (1 : Int32).toNatClampNeg))) + (1 : Int32))) (wr (sI m_8 (gR m_7 v0 2) (((11 : Int32) + ((4 : Int32) * (gI m_2 (gR m_2 v0 2) (1 : Int32).toNatClampNeg))) + (1 : Int32)).toNatClampNeg r_8) (fun m_10 => b2 (f_X10_number N v0 (1 : Int32) (10 : Int32) m_10) (fun r_11 m_11 => gd (okA 12 (gR m_10 v0 2) (((11 : Int32) + ((4 : Int32) * (gI m_2 (gR m_2 v0 2) (1 : Int32).toNatClampNeg))) + (2 : Int32))) (wr (sI m_11 (gR m_10 v0 2) (((11 : Int32) + ((4 : Int32) * (gI m_2 (gR m_2 v0 2) (1 : Int32).toNatClampNeg))) + (2 : Int32)).toNatClampNeg r_11) (fun m_13 => (if (gI m_13 v0 11) = 0 then b2 (f_X10_takes N v0 (295271344 : Int64) m_13) (fun r_28 m_28 => (if r_28 = 0 then b1 (f_X10_wrong N v0 (1 : Int32) (gI m_28 v0 8) m_28) (fun m_29 => B_X10_reviewerLine_100 N v0 ((11 : Int32) + ((4 : Int32) * (gI m_2 (gR m_2 v0 2) (1 : Int32).toNatClampNeg))) m_29) else B_X10_reviewerLine_100 N v0 ((11 : Int32) + ((4 : Int32) * (gI m_2 (gR m_2 v0 2) (1 : Int32).toNatClampNeg))) m_28)) else B_X10_reviewerLine_100 N v0 ((11 : Int32) + ((4 : Int32) * (gI m_2 (gR m_2 v0 2) (1 : Int32).toNatClampNeg))) m_13)))))))))))))))
def B_X10_proposalLine_131 (N : Nat) (v0 : Nat) (s0 : Int32) (s1 : Int32) (s2 : Nat) (m : Mem) : Option (Mem) :=
  gd (okA 12 s2 s1) (wr (sI m s2 s1.toNatClampNeg s0) (fun m_20 => gd (kd v0 == 10) (gd (okA 12 (gR m_20 v0 2) (2 : Int32)) (wr (sI m_20 (gR m_20 v0 2) (2 : Int32).toNatClampNeg ((gI m_20 (gR m_20 v0 2) (2 : Int32).toNatClampNeg) + (1 : Int32))) (fun m_23 => some (m_23))))))
def f_X10_proposalLine (N : Nat) (v0 : Nat) (m : Mem) : Option (Mem) :=
  gd (kd v0 == 10) (b2 (f_X10_adds N v0 (2 : Int32) (16 : Int32) m) (fun r_2 m_2 => (if r_2 = 0 then some (m_2) else gd (okA 12 (gR m_2 v0 2) (2 : Int32)) (gd (okA 12 (gR m_2 v0 2) (0 : Int32)) (b2 (f_X10_number N v0 (0 : Int32) ((gI m_2 (gR m_2 v0 2) (0 : Int32).toNatClampNeg) - (1 : Int32)) m_2) (fun r_5 m_5 => gd (okA 12 (gR m_2 v0 2) (((59 : Int32) + ((5 : Int32) * (gI m_2 (gR m_2 v0 2) (2 : Int32).toNatClampNeg))) + (0 : Int32))) (wr (sI m_5 (gR m_2 v0 2) (((59 : Int32) + ((5 : Int32) * (gI m_2 (gR m_2 v0 2) (2 : Int32).toNatClampNeg))) + (0 : Int32)).toNatClampNeg r_5) (fun m_7 => b2 (f_X10_number N v0 (0 : Int32) (9 : Int32) m_7) (fun r_8 m_8 => gd (okA 12 (gR m_7 v0 2) (((59 : Int32) + ((5 : Int32) * (gI m_2 (gR m_2 v0 2) (2 : Int32).toNatClampNeg))) + (1 : Int32))) (wr (sI m_8 (gR m_7 v0 2) (((59 : Int32) + ((5 : Int32) * (gI m_2 (gR m_2 v0 2) (2 : Int32).toNatClampNeg))) + (1 : Int32)).toNatClampNeg r_8) (fun m_10 => b2 (f_X10_number N v0 (0 : Int32) (7 : Int32) m_10) (fun r_11 m_11 => gd (okA 12 (gR m_10 v0 2) (((59 : Int32) + ((5 : Int32) * (gI m_2 (gR m_2 v0 2) (2 : Int32).toNatClampNeg))) + (2 : Int32))) (wr (sI m_11 (gR m_10 v0 2) (((59 : Int32) + ((5 : Int32) * (gI m_2 (gR m_2 v0 2) (2 : Int32).toNatClampNeg))) + (2 : Int32)).toNatClampNeg r_11) (fun m_13 => b2 (f_X10_number N v0 (1 : Int32) (9999 : Int32) m_13) (fun r_14 m_14 => gd (okA 12 (gR m_13 v0 2) (((59 : Int32) + ((5 : Int32) * (gI m_2 (gR m_2 v0 2) (2 : Int32).toNatClampNeg))) + (3 : Int32))) (wr (sI m_14 (gR m_13 v0 2) (((59 : Int32) + ((5 : Int32) * (gI m_2 (gR m_2 v0 2) (2 : Int32).toNatClampNeg))) + (3 : Int32)).toNatClampNeg r_14) (fun m_16 => b2 (f_X10_takes N v0 (6476969 : Int64) m_16) (fun r_17 m_17 => (if r_17 = 0 then gd (okA 12 (gR m_17 v0 2) (((59 : Int32) + ((5 : Int32) * (gI m_2 (gR m_2 v0 2) (2 : Int32).toNatClampNeg))) + (3 : Int32))) (B_X10_proposalLine_131 N v0 (gI m_17 (gR m_17 v0 2) (((59 : Int32) + ((5 : Int32) * (gI m_2 (gR m_2 v0 2) (2 : Int32).toNatClampNeg))) + (3 : Int32)).toNatClampNeg) (((59 : Int32) + ((5 : Int32) * (gI m_2 (gR m_2 v0 2) (2 : Int32).toNatClampNeg))) + (4 : Int32)) (gR m_16 v0 2) m_17) else gd (okA 12 (gR m_17 v0 2) (((59 : Int32) + ((5 : Int32) * (gI m_2 (gR m_2 v0 2) (2 : Int32).toNatClampNeg))) + (3 : Int32))) (b2 (f_X10_number N v0 (1 : Int32) (gI m_17 (gR m_17 v0 2) (((59 : Int32) + ((5 : Int32) * (gI m_2 (gR m_2 v0 2) (2 : Int32).toNatClampNeg))) + (3 : Int32)).toNatClampNeg) m_17) (fun r_25 m_25 => B_X10_proposalLine_131 N v0 r_25 (((59 : Int32) + ((5 : Int32) * (gI m_2 (gR m_2 v0 2) (2 : Int32).toNatClampNeg))) + (4 : Int32)) (gR m_16 v0 2) m_25)))))))))))))))))))))
def f_X10_conflictLine (N : Nat) (v0 : Nat) (m : Mem) : Option (Mem) :=
  gd (kd v0 == 10) (b2 (f_X10_wordEnd N v0 m) (fun r_2 m_2 => wr (sI m_2 v0 8 r_2) (fun m_3 => gd (okA 12 (gR m_3 v0 2) (1 : Int32)) (b2 (f_X10_number N v0 (0 : Int32) ((gI m_3 (gR m_3 v0 2) (1 : Int32).toNatClampNeg) - (1 : Int32)) m_3) (fun r_5 m_5 => gd (okA 12 (gR m_5 v0 2) (2 : Int32)) (b2 (f_X10_number N v0 (0 : Int32) ((gI m_5 (gR m_5 v0 2) (2 : Int32).toNatClampNeg) - (1 : Int32)) m_5) (fun r_7 m_7 => gd (okA 12 (gR m_7 v0 2) ((139 : Int32) + r_5)) (wr (sI m_7 (gR m_7 v0 2) ((139 : Int32) + r_5).toNatClampNeg ((gI m_7 (gR m_7 v0 2) ((139 : Int32) + r_5).toNatClampNeg) ||| ((1 : Int32) <<< (r_7 &&& 31)))) (fun m_9 => some (m_9))))))))))
def B_X10_textLine_215 (N : Nat) (v0 : Nat) (m : Mem) : Option (Mem) :=
  gd (kd v0 == 10) (wr (sI m v0 8 ((gI m v0 8) + (1 : Int32))) (fun m_12 => some (m_12)))
def B_X10_textLine_190 (N : Nat) (v0 : Nat) (m : Mem) : Option (Mem) :=
  gd (kd v0 == 10) ((if (gI m v0 11) = 0 then b2 (f_X10_here N v0 m) (fun r_13 m_13 => (if r_13 = (59 : Int32) then B_X10_textLine_215 N v0 m_13 else b1 (f_X10_wrong N v0 (1 : Int32) (gI m_13 v0 8) m_13) (fun m_14 => B_X10_textLine_215 N v0 m_14))) else B_X10_textLine_215 N v0 m))
def B_X10_textLine_137 (N : Nat) (v0 : Nat) (s0 : Int32) (s1 : Nat) (m : Mem) : Option (Mem) :=
  gd (kd v0 == 10) (b2 (f_X10_number N v0 (0 : Int32) (100000 : Int32) m) (fun r_7 m_7 => gd (okA 12 s1 s0) (wr (sI m_7 s1 s0.toNatClampNeg r_7) (fun m_9 => B_X10_textLine_190 N v0 m_9))))
def B_X10_textLine_112 (N : Nat) (v0 : Nat) (v1 : Int64) (m : Mem) : Option (Mem) :=
  gd (kd v0 == 10) (b2 (f_X10_wordEnd N v0 m) (fun r_4 m_4 => wr (sI m_4 v0 8 r_4) (fun m_5 => (if (lg_cmp v1 (243140 : Int64)) = 0 then B_X10_textLine_137 N v0 (4 : Int32) (gR m_5 v0 2) m_5 else B_X10_textLine_137 N v0 (5 : Int32) (gR m_5 v0 2) m_5))))
def f_X10_textLine (N : Nat) (v0 : Nat) (m : Mem) : Option (Mem) :=
  gd (kd v0 == 10) (b2 (f_X10_word N v0 m) (fun r_2 m_2 => (if (lg_cmp r_2 (8533092 : Int64)) = 0 then b1 (f_X10_panelLine N v0 m_2) (fun m_39 => B_X10_textLine_190 N v0 m_39) else (if (lg_cmp r_2 (190544034357 : Int64)) = 0 then b1 (f_X10_reviewerLine N v0 m_2) (fun m_37 => B_X10_textLine_190 N v0 m_37) else (if (lg_cmp r_2 (174563265846 : Int64)) = 0 then b1 (f_X10_proposalLine N v0 m_2) (fun m_35 => B_X10_textLine_190 N v0 m_35) else (if (lg_cmp r_2 (37396683146 : Int64)) = 0 then b1 (f_X10_conflictLine N v0 m_2) (fun m_33 => B_X10_textLine_190 N v0 m_33) else (if (lg_cmp r_2 (7057186471 : Int64)) = 0 then b2 (f_X10_wordEnd N v0 m_2) (fun r_27 m_27 => wr (sI m_27 v0 8 r_27) (fun m_28 => b2 (f_X10_number N v0 (1 : Int32) (4 : Int32) m_28) (fun r_29 m_29 => gd (okA 12 (gR m_28 v0 2) (3 : Int32)) (wr (sI m_29 (gR m_28 v0 2) (3 : Int32).toNatClampNeg r_29) (fun m_31 => B_X10_textLine_190 N v0 m_31))))) else (if (lg_cmp r_2 (243140 : Int64)) = 0 then B_X10_textLine_112 N v0 r_2 m_2 else (if (lg_cmp r_2 (326280 : Int64)) = 0 then B_X10_textLine_112 N v0 r_2 m_2 else (if (lg_cmp r_2 (6564179 : Int64)) = 0 then b2 (f_X10_wordEnd N v0 m_2) (fun r_19 m_19 => wr (sI m_19 v0 8 r_19) (fun m_20 => b2 (f_X10_number N v0 (0 : Int32) (99 : Int32) m_20) (fun r_21 m_21 => gd (okA 12 (gR m_20 v0 2) (6 : Int32)) (wr (sI m_21 (gR m_20 v0 2) (6 : Int32).toNatClampNeg r_21) (fun m_23 => B_X10_textLine_190 N v0 m_23))))) else b1 (f_X10_wrong N v0 (1 : Int32) (gI m_2 v0 8) m_2) (fun m_18 => B_X10_textLine_190 N v0 m_18)))))))))))
def T_X10_load_17 (N : Nat) (rc : Nat → Int32 → Mem → Option (Nat × Mem)) (v0 : Nat) (v1 : Int32) (m : Mem) : Option (Nat × Mem) :=
  (if (151 : Int32) ≤ v1 then some ((v0, m)) else gd (kd v0 == 10) (gd (okA 12 (gR m v0 2) v1) (wr (sI m (gR m v0 2) v1.toNatClampNeg (0 : Int32)) (fun m_7 => rc v0 (v1 + (1 : Int32)) m_7))))
def L_X10_load_17 (N : Nat) : Nat → Nat → Int32 → Mem → Option (Nat × Mem)
  | 0 => fun _ _ _ => none
  | n + 1 => T_X10_load_17 N (L_X10_load_17 N n)
def T_X10_load_63 (N : Nat) (rc : Nat → Mem → Option (Nat × Mem)) (v0 : Nat) (m : Mem) : Option (Nat × Mem) :=
  gd (kd v0 == 10) ((if (gI m v0 11) = 0 then b2 (f_X10_here N v0 m) (fun r_19 m_19 => (if r_19 = (-1 : Int32) then some ((v0, m_19)) else b1 (f_X10_textLine N v0 m_19) (fun m_20 => rc v0 m_20))) else some ((v0, m))))
def L_X10_load_63 (N : Nat) : Nat → Nat → Mem → Option (Nat × Mem)
  | 0 => fun _ _ => none
  | n + 1 => T_X10_load_63 N (L_X10_load_63 N n)
def T_X10_load_105 (N : Nat) (rc : Nat → Int32 → Mem → Option (Nat × Mem)) (v0 : Nat) (v1 : Int32) (m : Mem) : Option (Nat × Mem) :=
  (if (151 : Int32) ≤ v1 then some ((v0, m)) else gd (kd v0 == 10) (gd (okA 12 (gR m v0 2) v1) (gd (okA 12 (gR m v0 1) v1) (wr (sI m (gR m v0 1) v1.toNatClampNeg (gI m (gR m v0 2) v1.toNatClampNeg)) (fun m_29 => rc v0 (v1 + (1 : Int32)) m_29)))))
def L_X10_load_105 (N : Nat) : Nat → Nat → Int32 → Mem → Option (Nat × Mem)
  | 0 => fun _ _ _ => none
  | n + 1 => T_X10_load_105 N (L_X10_load_105 N n)
def T_X10_load_132 (N : Nat) (rc : Nat → Int32 → Mem → Option (Nat × Mem)) (v0 : Nat) (v1 : Int32) (m : Mem) : Option (Nat × Mem) :=
  (if (218 : Int32) ≤ v1 then some ((v0, m)) else gd (kd v0 == 10) (gd (okA 12 (gR m v0 3) v1) (wr (sI m (gR m v0 3) v1.toNatClampNeg (0 : Int32)) (fun m_34 => rc v0 (v1 + (1 : Int32)) m_34))))
def L_X10_load_132 (N : Nat) : Nat → Nat → Int32 → Mem → Option (Nat × Mem)
  | 0 => fun _ _ _ => none
  | n + 1 => T_X10_load_132 N (L_X10_load_132 N n)
def T_X10_load_166 (N : Nat) (rc : Nat → Int32 → Mem → Option (Nat × Mem)) (v0 : Nat) (v1 : Int32) (m : Mem) : Option (Nat × Mem) :=
  (if (12 : Int32) ≤ v1 then some ((v0, m)) else gd (kd v0 == 10) (gd (okA 12 (gR m v0 1) ((139 : Int32) + v1)) (gd (okA 12 (gR m v0 3) ((2 : Int32) + v1)) (wr (sI m (gR m v0 3) ((2 : Int32) + v1).toNatClampNeg (gI m (gR m v0 1) ((139 : Int32) + v1).toNatClampNeg)) (fun m_44 => rc v0 (v1 + (1 : Int32)) m_44)))))
def L_X10_load_166 (N : Nat) : Nat → Nat → Int32 → Mem → Option (Nat × Mem)
  | 0 => fun _ _ _ => none
  | n + 1 => T_X10_load_166 N (L_X10_load_166 N n)
def B_X10_load_85 (N : Nat) (v0 : Nat) (m : Mem) : Option (Int32 × Mem) :=
  gd (kd v0 == 10) (wr (sI m v0 7 (0 : Int32)) (fun m_25 => (if (gI m_25 v0 11) = 0 then l2 (L_X10_load_105 N N v0 (0 : Int32) m_25) (fun v0_31 m_31 => l2 (L_X10_load_132 N N v0_31 (0 : Int32) m_31) (fun v0_36 m_36 => gd (kd v0_36 == 10) (gd (okA 12 (gR m_36 v0_36 1) (4 : Int32)) (gd (okA 12 (gR m_36 v0_36 3) (0 : Int32)) (wr (sI m_36 (gR m_36 v0_36 3) (0 : Int32).toNatClampNeg (gI m_36 (gR m_36 v0_36 1) (4 : Int32).toNatClampNeg)) (fun m_40 => l2 (L_X10_load_166 N N v0_36 (0 : Int32) m_40) (fun v0_46 m_46 => gd (kd v0_46 == 10) (wr (sI m_46 v0_46 5 (0 : Int32)) (fun m_48 => gd (okA 12 (gR m_48 v0_46 1) (2 : Int32)) (some (gI m_48 (gR m_48 v0_46 1) (2 : Int32).toNatClampNeg, m_48))))))))))) else b2 (f_X10_fails N v0 (1 : Int32) m_25) (fun r_50 m_50 => some (r_50, m_50)))))
def f_X10_load (N : Nat) (v0 : Nat) (m : Mem) : Option (Int32 × Mem) :=
  gd (kd v0 == 10) (wr (sI m v0 0 (0 : Int32)) (fun m_2 => wr (sI m_2 v0 9 (0 : Int32)) (fun m_3 => wr (sI m_3 v0 10 (-1 : Int32)) (fun m_4 => l2 (L_X10_load_17 N N v0 (0 : Int32) m_4) (fun v0_9 m_9 => gd (kd v0_9 == 10) (gd (okA 12 (gR m_9 v0_9 2) (3 : Int32)) (wr (sI m_9 (gR m_9 v0_9 2) (3 : Int32).toNatClampNeg (2 : Int32)) (fun m_12 => gd (okA 12 (gR m_12 v0_9 2) (6 : Int32)) (wr (sI m_12 (gR m_12 v0_9 2) (6 : Int32).toNatClampNeg (20 : Int32)) (fun m_14 => wr (sI m_14 v0_9 8 (0 : Int32)) (fun m_15 => gd (isB (0 : Int32)) (wr (sI m_15 v0_9 11 (0 : Int32)) (fun m_17 => l2 (L_X10_load_63 N N v0_9 m_17) (fun v0_23 m_23 => B_X10_load_85 N v0_23 m_23))))))))))))))
def f_X10_errorCode (N : Nat) (v0 : Nat) (m : Mem) : Option (Int32 × Mem) :=
  gd (kd v0 == 10) (wr (sI m v0 0 (0 : Int32)) (fun m_2 => some (gI m_2 v0 9, m_2)))
def f_X10_errorPosition (N : Nat) (v0 : Nat) (m : Mem) : Option (Int32 × Mem) :=
  gd (kd v0 == 10) (wr (sI m v0 0 (0 : Int32)) (fun m_2 => some (gI m_2 v0 10, m_2)))
def T_X10_keeps_57 (N : Nat) (rc : Nat → Int32 → Mem → Option (Nat × Mem)) (v0 : Nat) (v1 : Int32) (m : Mem) : Option (Nat × Mem) :=
  (if (218 : Int32) ≤ v1 then some ((v0, m)) else gd (kd v0 == 10) (gd (okA 12 (gR m v0 3) v1) (gd (okA 12 (gR m v0 4) (((218 : Int32) * (gI m v0 5)) + v1)) (wr (sI m (gR m v0 4) (((218 : Int32) * (gI m v0 5)) + v1).toNatClampNeg (gI m (gR m v0 3) v1.toNatClampNeg)) (fun m_5 => rc v0 (v1 + (1 : Int32)) m_5)))))
def L_X10_keeps_57 (N : Nat) : Nat → Nat → Int32 → Mem → Option (Nat × Mem)
  | 0 => fun _ _ _ => none
  | n + 1 => T_X10_keeps_57 N (L_X10_keeps_57 N n)
def B_X10_keeps_55 (N : Nat) (v0 : Nat) (m : Mem) : Option (Mem) :=
  l2 (L_X10_keeps_57 N N v0 (0 : Int32) m) (fun v0_7 m_7 => gd (kd v0_7 == 10) (wr (sI m_7 v0_7 5 ((gI m_7 v0_7 5) + (1 : Int32))) (fun m_9 => some (m_9))))
def T_X10_keeps_21 (N : Nat) (rc : Nat → Int32 → Mem → Option (Nat × Mem)) (v0 : Nat) (v1 : Int32) (m : Mem) : Option (Nat × Mem) :=
  gd (kd v0 == 10) ((if ((gI m v0 5) * (218 : Int32)) ≤ v1 then some ((v0, m)) else gd (okA 12 (gR m v0 4) (v1 + (218 : Int32))) (gd (okA 12 (gR m v0 4) v1) (wr (sI m (gR m v0 4) v1.toNatClampNeg (gI m (gR m v0 4) (v1 + (218 : Int32)).toNatClampNeg)) (fun m_14 => rc v0 (v1 + (1 : Int32)) m_14)))))
def L_X10_keeps_21 (N : Nat) : Nat → Nat → Int32 → Mem → Option (Nat × Mem)
  | 0 => fun _ _ _ => none
  | n + 1 => T_X10_keeps_21 N (L_X10_keeps_21 N n)
def f_X10_keeps (N : Nat) (v0 : Nat) (m : Mem) : Option (Mem) :=
  gd (kd v0 == 10) ((if (gI m v0 5) = (10 : Int32) then wr (sI m v0 5 ((gI m v0 5) - (1 : Int32))) (fun m_10 => l2 (L_X10_keeps_21 N N v0 (0 : Int32) m_10) (fun v0_16 m_16 => B_X10_keeps_55 N v0_16 m_16)) else B_X10_keeps_55 N v0 m))
def T_X10_undo_37 (N : Nat) (rc : Nat → Int32 → Mem → Option (Nat × Mem)) (v0 : Nat) (v1 : Int32) (m : Mem) : Option (Nat × Mem) :=
  (if (218 : Int32) ≤ v1 then some ((v0, m)) else gd (kd v0 == 10) (gd (okA 12 (gR m v0 4) (((218 : Int32) * (gI m v0 5)) + v1)) (gd (okA 12 (gR m v0 3) v1) (wr (sI m (gR m v0 3) v1.toNatClampNeg (gI m (gR m v0 4) (((218 : Int32) * (gI m v0 5)) + v1).toNatClampNeg)) (fun m_9 => rc v0 (v1 + (1 : Int32)) m_9)))))
def L_X10_undo_37 (N : Nat) : Nat → Nat → Int32 → Mem → Option (Nat × Mem)
  | 0 => fun _ _ _ => none
  | n + 1 => T_X10_undo_37 N (L_X10_undo_37 N n)
def B_X10_undo_13 (N : Nat) (v0 : Nat) (s0 : Int32) (s1 : Nat) (m : Mem) : Option (Int32 × Mem) :=
  gd (kd s1 == 10) (wr (sI m s1 0 s0) (fun m_3 => gd (kd v0 == 10) ((if (gI m_3 v0 0) ≤ 0 then wr (sI m_3 v0 5 ((gI m_3 v0 5) - (1 : Int32))) (fun m_5 => l2 (L_X10_undo_37 N N v0 (0 : Int32) m_5) (fun v0_11 m_11 => gd (kd v0_11 == 10) (some (gI m_11 v0_11 5, m_11)))) else some ((0 : Int32), m_3)))))
def f_X10_undo (N : Nat) (v0 : Nat) (m : Mem) : Option (Int32 × Mem) :=
  gd (kd v0 == 10) ((if (gI m v0 5) = 0 then B_X10_undo_13 N v0 (1 : Int32) v0 m else B_X10_undo_13 N v0 (0 : Int32) v0 m))
def f_X10_isReview (N : Nat) (v0 : Nat) (v1 : Int32) (v2 : Int32) (m : Mem) : Option (Int32 × Mem) :=
  gd (kd v0 == 10) (gd (okA 12 (gR m v0 3) ((14 : Int32) + v1)) (b2 (f_X10_has N (gI m (gR m v0 3) ((14 : Int32) + v1).toNatClampNeg) v2 m) (fun r_3 m_3 => gd (isB r_3) (some (r_3, m_3)))))
def f_X10_score (N : Nat) (v0 : Nat) (v1 : Int32) (v2 : Int32) (m : Mem) : Option (Int32 × Mem) :=
  gd (kd v0 == 10) (gd (okA 12 (gR m v0 3) (((26 : Int32) + ((16 : Int32) * v1)) + v2)) (some (gI m (gR m v0 3) (((26 : Int32) + ((16 : Int32) * v1)) + v2).toNatClampNeg, m)))
def T_X10_reviewsOf_4 (N : Nat) (rc : Nat → Int32 → Int32 → Int32 → Mem → Option (Int32 × Mem)) (v0 : Nat) (v1 : Int32) (v2 : Int32) (v3 : Int32) (m : Mem) : Option (Int32 × Mem) :=
  gd (kd v0 == 10) (gd (okA 12 (gR m v0 1) (1 : Int32)) ((if (gI m (gR m v0 1) (1 : Int32).toNatClampNeg) ≤ v3 then some ((v2, m)) else b2 (f_X10_isReview N v0 v3 v1 m) (fun r_3 m_3 => (if r_3 = 0 then rc v0 v1 (v2 + (0 : Int32)) (v3 + (1 : Int32)) m_3 else rc v0 v1 (v2 + (1 : Int32)) (v3 + (1 : Int32)) m_3)))))
def L_X10_reviewsOf_4 (N : Nat) : Nat → Nat → Int32 → Int32 → Int32 → Mem → Option (Int32 × Mem)
  | 0 => fun _ _ _ _ _ => none
  | n + 1 => T_X10_reviewsOf_4 N (L_X10_reviewsOf_4 N n)
def f_X10_reviewsOf (N : Nat) (v0 : Nat) (v1 : Int32) (m : Mem) : Option (Int32 × Mem) :=
  l2 (L_X10_reviewsOf_4 N N v0 v1 (0 : Int32) (0 : Int32) m) (fun v2_6 m_6 => some (v2_6, m_6))
def f_X10_reviewsBy (N : Nat) (v0 : Nat) (v1 : Int32) (m : Mem) : Option (Int32 × Mem) :=
  gd (kd v0 == 10) (gd (okA 12 (gR m v0 3) ((14 : Int32) + v1)) (b2 (f_X10_bits N (gI m (gR m v0 3) ((14 : Int32) + v1).toNatClampNeg) m) (fun r_3 m_3 => some (r_3, m_3))))
def T_X10_scoredOf_4 (N : Nat) (rc : Nat → Int32 → Int32 → Int32 → Mem → Option (Int32 × Mem)) (v0 : Nat) (v1 : Int32) (v2 : Int32) (v3 : Int32) (m : Mem) : Option (Int32 × Mem) :=
  (if (16 : Int32) ≤ v3 then some ((v2, m)) else gd (kd v0 == 10) (b2 (f_X10_score N v0 v1 v3 m) (fun r_2 m_2 => (if r_2 ≤ 0 then rc v0 v1 (v2 + (0 : Int32)) (v3 + (1 : Int32)) m_2 else rc v0 v1 (v2 + (1 : Int32)) (v3 + (1 : Int32)) m_2))))
def L_X10_scoredOf_4 (N : Nat) : Nat → Nat → Int32 → Int32 → Int32 → Mem → Option (Int32 × Mem)
  | 0 => fun _ _ _ _ _ => none
  | n + 1 => T_X10_scoredOf_4 N (L_X10_scoredOf_4 N n)
def f_X10_scoredOf (N : Nat) (v0 : Nat) (v1 : Int32) (m : Mem) : Option (Int32 × Mem) :=
  l2 (L_X10_scoredOf_4 N N v0 v1 (0 : Int32) (0 : Int32) m) (fun v2_5 m_5 => some (v2_5, m_5))
def B_X10_hasConflict_30 (N : Nat)  (m : Mem) : Option (Int32 × Mem) :=
  gd (isB (1 : Int32)) (some ((1 : Int32), m))
def f_X10_hasConflict (N : Nat) (v0 : Nat) (v1 : Int32) (v2 : Int32) (m : Mem) : Option (Int32 × Mem) :=
  gd (kd v0 == 10) (b2 (f_X10_reviewer N v0 v1 (1 : Int32) m) (fun r_2 m_2 => b2 (f_X10_proposal N v0 v2 (1 : Int32) m_2) (fun r_3 m_3 => (if r_2 = r_3 then B_X10_hasConflict_30 N  m_3 else gd (okA 12 (gR m_3 v0 3) ((2 : Int32) + v1)) (b2 (f_X10_has N (gI m_3 (gR m_3 v0 3) ((2 : Int32) + v1).toNatClampNeg) v2 m_3) (fun r_6 m_6 => (if r_6 = 0 then gd (isB (0 : Int32)) (some ((0 : Int32), m_6)) else B_X10_hasConflict_30 N  m_6)))))))
def B_X10_fits_28 (N : Nat)  (m : Mem) : Option (Int32 × Mem) :=
  gd (isB (0 : Int32)) (some ((0 : Int32), m))
def f_X10_fits (N : Nat) (v0 : Nat) (v1 : Int32) (v2 : Int32) (m : Mem) : Option (Int32 × Mem) :=
  gd (kd v0 == 10) (b2 (f_X10_reviewer N v0 v1 (0 : Int32) m) (fun r_2 m_2 => b2 (f_X10_proposal N v0 v2 (0 : Int32) m_2) (fun r_3 m_3 => (if r_2 = r_3 then b2 (f_X10_hasConflict N v0 v1 v2 m_3) (fun r_5 m_5 => (if r_5 = 0 then gd (isB (1 : Int32)) (some ((1 : Int32), m_5)) else B_X10_fits_28 N  m_5)) else B_X10_fits_28 N  m_3))))
def B_X10_matches_52 (N : Nat)  (m : Mem) : Option (Int32 × Mem) :=
  some ((1 : Int32), m)
def B_X10_matches_56 (N : Nat)  (m : Mem) : Option (Int32 × Mem) :=
  some ((0 : Int32), m)
def f_X10_matches (N : Nat) (v0 : Nat) (v1 : Int32) (v2 : Int32) (m : Mem) : Option (Int32 × Mem) :=
  gd (kd v0 == 10) (b2 (f_X10_proposal N v0 v2 (2 : Int32) m) (fun r_2 m_2 => b2 (f_X10_reviewer N v0 v1 (3 : Int32) m_2) (fun r_3 m_3 => b2 (f_X10_has N r_3 r_2 m_3) (fun r_4 m_4 => (if r_4 = 0 then b2 (f_X10_has N r_3 (r_2 + (1 : Int32)) m_4) (fun r_5 m_5 => (if r_5 = 0 then (if r_2 ≤ 0 then B_X10_matches_56 N  m_5 else b2 (f_X10_has N r_3 (r_2 - (1 : Int32)) m_5) (fun r_6 m_6 => (if r_6 = 0 then B_X10_matches_56 N  m_6 else B_X10_matches_52 N  m_6))) else B_X10_matches_52 N  m_5)) else some ((2 : Int32), m_4))))))
def T_X10_count_60 (N : Nat) (rc : Nat → Int32 → Int32 → Int32 → Mem → Option (Int32 × Mem)) (v0 : Nat) (v1 : Int32) (v2 : Int32) (v3 : Int32) (m : Mem) : Option (Int32 × Mem) :=
  gd (kd v0 == 10) (gd (okA 12 (gR m v0 1) (1 : Int32)) ((if (gI m (gR m v0 1) (1 : Int32).toNatClampNeg) ≤ v3 then some ((v2, m)) else (if v1 = (3 : Int32) then b2 (f_X10_reviewsBy N v0 v3 m) (fun r_11 m_11 => rc v0 v1 (v2 + r_11) (v3 + (1 : Int32)) m_11) else (if v1 = (4 : Int32) then b2 (f_X10_scoredOf N v0 v3 m) (fun r_9 m_9 => rc v0 v1 (v2 + r_9) (v3 + (1 : Int32)) m_9) else gd (okA 12 (gR m v0 3) ((2 : Int32) + v3)) (b2 (f_X10_bits N (gI m (gR m v0 3) ((2 : Int32) + v3).toNatClampNeg) m) (fun r_8 m_8 => rc v0 v1 (v2 + r_8) (v3 + (1 : Int32)) m_8)))))))
def L_X10_count_60 (N : Nat) : Nat → Nat → Int32 → Int32 → Int32 → Mem → Option (Int32 × Mem)
  | 0 => fun _ _ _ _ _ => none
  | n + 1 => T_X10_count_60 N (L_X10_count_60 N n)
def B_X10_count_16 (N : Nat) (v0 : Nat) (v1 : Int32) (s0 : Int32) (s1 : Nat) (m : Mem) : Option (Int32 × Mem) :=
  gd (kd s1 == 10) (wr (sI m s1 0 s0) (fun m_3 => gd (kd v0 == 10) ((if (gI m_3 v0 0) ≤ 0 then (if (3 : Int32) ≤ v1 then (if v1 = (6 : Int32) then gd (okA 12 (gR m_3 v0 3) (1 : Int32)) (b2 (f_X10_bits N (gI m_3 (gR m_3 v0 3) (1 : Int32).toNatClampNeg) m_3) (fun r_16 m_16 => some (r_16, m_16))) else l2 (L_X10_count_60 N N v0 v1 (0 : Int32) (0 : Int32) m_3) (fun v2_14 m_14 => some (v2_14, m_14))) else gd (okA 12 (gR m_3 v0 1) v1) (some (gI m_3 (gR m_3 v0 1) v1.toNatClampNeg, m_3))) else some ((0 : Int32), m_3)))))
def f_X10_count (N : Nat) (v0 : Nat) (v1 : Int32) (m : Mem) : Option (Int32 × Mem) :=
  b2 (f_X10_in N v1 (0 : Int32) (6 : Int32) m) (fun r_1 m_1 => (if r_1 = 0 then B_X10_count_16 N v0 v1 (1 : Int32) v0 m_1 else B_X10_count_16 N v0 v1 (0 : Int32) v0 m_1))
def B_X10_areBoth_22 (N : Nat) (v0 : Nat) (s0 : Int32) (s1 : Nat) (m : Mem) : Option (Int32 × Mem) :=
  gd (kd s1 == 10) (wr (sI m s1 0 s0) (fun m_4 => gd (kd v0 == 10) ((if (gI m_4 v0 0) = 0 then gd (isB (1 : Int32)) (some ((1 : Int32), m_4)) else gd (isB (0 : Int32)) (some ((0 : Int32), m_4))))))
def B_X10_areBoth_21 (N : Nat) (v0 : Nat) (s0 : Nat) (m : Mem) : Option (Int32 × Mem) :=
  B_X10_areBoth_22 N v0 (1 : Int32) s0 m
def f_X10_areBoth (N : Nat) (v0 : Nat) (v1 : Int32) (v2 : Int32) (m : Mem) : Option (Int32 × Mem) :=
  gd (kd v0 == 10) (b2 (f_X10_isReviewer N v0 v1 m) (fun r_2 m_2 => (if r_2 = 0 then B_X10_areBoth_21 N v0 v0 m_2 else b2 (f_X10_isProposal N v0 v2 m_2) (fun r_9 m_9 => (if r_9 = 0 then B_X10_areBoth_21 N v0 v0 m_9 else B_X10_areBoth_22 N v0 (0 : Int32) v0 m_9)))))
def B_X10_isConflict_22 (N : Nat)  (m : Mem) : Option (Int32 × Mem) :=
  gd (isB (0 : Int32)) (some ((0 : Int32), m))
def f_X10_isConflict (N : Nat) (v0 : Nat) (v1 : Int32) (v2 : Int32) (m : Mem) : Option (Int32 × Mem) :=
  gd (kd v0 == 10) (b2 (f_X10_areBoth N v0 v1 v2 m) (fun r_2 m_2 => (if r_2 = 0 then B_X10_isConflict_22 N  m_2 else b2 (f_X10_hasConflict N v0 v1 v2 m_2) (fun r_4 m_4 => (if r_4 = 0 then B_X10_isConflict_22 N  m_4 else gd (isB (1 : Int32)) (some ((1 : Int32), m_4)))))))
def f_X10_match (N : Nat) (v0 : Nat) (v1 : Int32) (v2 : Int32) (m : Mem) : Option (Int32 × Mem) :=
  gd (kd v0 == 10) (b2 (f_X10_areBoth N v0 v1 v2 m) (fun r_2 m_2 => (if r_2 = 0 then some ((0 : Int32), m_2) else b2 (f_X10_matches N v0 v1 v2 m_2) (fun r_3 m_3 => some (r_3, m_3)))))
def B_X10_declare_47 (N : Nat) (v0 : Nat) (v1 : Int32) (v2 : Int32) (s0 : Int32) (m : Mem) : Option (Int32 × Mem) :=
  gd (kd v0 == 10) (b1 (f_X10_keeps N v0 m) (fun m_7 => gd (okA 12 (gR m_7 v0 3) ((2 : Int32) + v1)) (wr (sI m_7 (gR m_7 v0 3) ((2 : Int32) + v1).toNatClampNeg ((gI m_7 (gR m_7 v0 3) ((2 : Int32) + v1).toNatClampNeg) ||| ((1 : Int32) <<< (v2 &&& 31)))) (fun m_9 => gd (isB s0) (some (s0, m_9))))))
def f_X10_declare (N : Nat) (v0 : Nat) (v1 : Int32) (v2 : Int32) (m : Mem) : Option (Int32 × Mem) :=
  gd (kd v0 == 10) (b2 (f_X10_areBoth N v0 v1 v2 m) (fun r_2 m_2 => (if r_2 = 0 then gd (isB (0 : Int32)) (some ((0 : Int32), m_2)) else b2 (f_X10_isReview N v0 v1 v2 m_2) (fun r_3 m_3 => (if r_3 = 0 then gd (okA 12 (gR m_3 v0 3) ((2 : Int32) + v1)) (b2 (f_X10_has N (gI m_3 (gR m_3 v0 3) ((2 : Int32) + v1).toNatClampNeg) v2 m_3) (fun r_5 m_5 => (if r_5 = 0 then B_X10_declare_47 N v0 v1 v2 (1 : Int32) m_5 else B_X10_declare_47 N v0 v1 v2 (0 : Int32) m_5))) else wr (sI m_3 v0 0 (2 : Int32)) (fun m_12 => gd (isB (0 : Int32)) (some ((0 : Int32), m_12))))))))
def B_X10_assign_63 (N : Nat) (v0 : Nat) (m : Mem) : Option (Int32 × Mem) :=
  gd (kd v0 == 10) (b2 (f_X10_fails N v0 (3 : Int32) m) (fun r_6 m_6 => some (r_6, m_6)))
def f_X10_assign (N : Nat) (v0 : Nat) (v1 : Int32) (v2 : Int32) (m : Mem) : Option (Int32 × Mem) :=
  gd (kd v0 == 10) (b2 (f_X10_areBoth N v0 v1 v2 m) (fun r_2 m_2 => (if r_2 = 0 then some ((0 : Int32), m_2) else b2 (f_X10_fits N v0 v1 v2 m_2) (fun r_3 m_3 => (if r_3 = 0 then b2 (f_X10_fails N v0 (2 : Int32) m_3) (fun r_18 m_18 => some (r_18, m_18)) else b2 (f_X10_isReview N v0 v1 v2 m_3) (fun r_4 m_4 => (if r_4 = 0 then b2 (f_X10_reviewsBy N v0 v1 m_4) (fun r_7 m_7 => b2 (f_X10_reviewer N v0 v1 (2 : Int32) m_7) (fun r_8 m_8 => (if r_8 ≤ r_7 then B_X10_assign_63 N v0 m_8 else b2 (f_X10_reviewsOf N v0 v2 m_8) (fun r_9 m_9 => gd (okA 12 (gR m_9 v0 1) (3 : Int32)) ((if r_9 < (gI m_9 (gR m_9 v0 1) (3 : Int32).toNatClampNeg) then b1 (f_X10_keeps N v0 m_9) (fun m_11 => gd (okA 12 (gR m_11 v0 3) ((14 : Int32) + v1)) (wr (sI m_11 (gR m_11 v0 3) ((14 : Int32) + v1).toNatClampNeg ((gI m_11 (gR m_11 v0 3) ((14 : Int32) + v1).toNatClampNeg) ||| ((1 : Int32) <<< (v2 &&& 31)))) (fun m_13 => b2 (f_X10_reviewsOf N v0 v2 m_13) (fun r_14 m_14 => some (r_14, m_14))))) else B_X10_assign_63 N v0 m_9)))))) else B_X10_assign_63 N v0 m_4)))))))
def f_X10_removes (N : Nat) (v0 : Nat) (v1 : Int32) (v2 : Int32) (m : Mem) : Option (Mem) :=
  gd (kd v0 == 10) (gd (okA 12 (gR m v0 3) ((14 : Int32) + v1)) (wr (sI m (gR m v0 3) ((14 : Int32) + v1).toNatClampNeg ((gI m (gR m v0 3) ((14 : Int32) + v1).toNatClampNeg) &&& (((1 : Int32) <<< (v2 &&& 31)) ^^^ (-1 : Int32)))) (fun m_3 => gd (okA 12 (gR m_3 v0 3) (((26 : Int32) + ((16 : Int32) * v1)) + v2)) (wr (sI m_3 (gR m_3 v0 3) (((26 : Int32) + ((16 : Int32) * v1)) + v2).toNatClampNeg (0 : Int32)) (fun m_5 => some (m_5))))))
def f_X10_orNone (N : Nat) (v0 : Int32) (m : Mem) : Option (Int32 × Mem) :=
  (if v0 = 0 then some ((-1 : Int32), m) else some (v0, m))
def f_X10_unassign (N : Nat) (v0 : Nat) (v1 : Int32) (v2 : Int32) (m : Mem) : Option (Int32 × Mem) :=
  gd (kd v0 == 10) (b2 (f_X10_areBoth N v0 v1 v2 m) (fun r_2 m_2 => (if r_2 = 0 then some ((0 : Int32), m_2) else b2 (f_X10_isReview N v0 v1 v2 m_2) (fun r_3 m_3 => (if r_3 = 0 then b2 (f_X10_fails N v0 (2 : Int32) m_3) (fun r_8 m_8 => some (r_8, m_8)) else b1 (f_X10_keeps N v0 m_3) (fun m_4 => b2 (f_X10_score N v0 v1 v2 m_4) (fun r_5 m_5 => b1 (f_X10_removes N v0 v1 v2 m_5) (fun m_6 => b2 (f_X10_orNone N r_5 m_6) (fun r_7 m_7 => some (r_7, m_7))))))))))
def B_X10_chooses_101 (N : Nat) (rc : Nat → Int32 → Int32 → Int32 → Mem → Option (Int32 × Mem)) (v0 : Nat) (v1 : Int32) (v3 : Int32) (s0 : Int32) (m : Mem) : Option (Int32 × Mem) :=
  rc v0 v1 s0 (v3 + (1 : Int32)) m
def B_X10_chooses_96 (N : Nat) (rc : Nat → Int32 → Int32 → Int32 → Mem → Option (Int32 × Mem)) (v0 : Nat) (v1 : Int32) (v3 : Int32) (m : Mem) : Option (Int32 × Mem) :=
  B_X10_chooses_101 N rc v0 v1 v3 v3 m
def B_X10_chooses_100 (N : Nat) (rc : Nat → Int32 → Int32 → Int32 → Mem → Option (Int32 × Mem)) (v0 : Nat) (v1 : Int32) (v2 : Int32) (v3 : Int32) (m : Mem) : Option (Int32 × Mem) :=
  B_X10_chooses_101 N rc v0 v1 v3 v2 m
def B_X10_chooses_71 (N : Nat) (rc : Nat → Int32 → Int32 → Int32 → Mem → Option (Int32 × Mem)) (v0 : Nat) (v1 : Int32) (v2 : Int32) (v3 : Int32) (s0 : Int32) (m : Mem) : Option (Int32 × Mem) :=
  (if 0 < s0 then B_X10_chooses_96 N rc v0 v1 v3 m else (if s0 = 0 then gd (kd v0 == 10) (b2 (f_X10_reviewsBy N v0 v3 m) (fun r_10 m_10 => b2 (f_X10_reviewsBy N v0 v2 m_10) (fun r_11 m_11 => (if r_11 ≤ r_10 then B_X10_chooses_100 N rc v0 v1 v2 v3 m_11 else B_X10_chooses_96 N rc v0 v1 v3 m_11)))) else B_X10_chooses_100 N rc v0 v1 v2 v3 m))
def T_X10_chooses_4 (N : Nat) (rc : Nat → Int32 → Int32 → Int32 → Mem → Option (Int32 × Mem)) (v0 : Nat) (v1 : Int32) (v2 : Int32) (v3 : Int32) (m : Mem) : Option (Int32 × Mem) :=
  gd (kd v0 == 10) (gd (okA 12 (gR m v0 1) (1 : Int32)) ((if (gI m (gR m v0 1) (1 : Int32).toNatClampNeg) ≤ v3 then some ((v2, m)) else b2 (f_X10_fits N v0 v3 v1 m) (fun r_3 m_3 => (if r_3 = 0 then rc v0 v1 v2 (v3 + (1 : Int32)) m_3 else b2 (f_X10_isReview N v0 v3 v1 m_3) (fun r_4 m_4 => (if r_4 = 0 then b2 (f_X10_reviewsBy N v0 v3 m_4) (fun r_5 m_5 => b2 (f_X10_reviewer N v0 v3 (2 : Int32) m_5) (fun r_6 m_6 => (if r_5 < r_6 then (if v2 = (-1 : Int32) then B_X10_chooses_71 N rc v0 v1 v2 v3 (1 : Int32) m_6 else b2 (f_X10_matches N v0 v3 v1 m_6) (fun r_7 m_7 => b2 (f_X10_matches N v0 v2 v1 m_7) (fun r_8 m_8 => B_X10_chooses_71 N rc v0 v1 v2 v3 (r_7 - r_8) m_8))) else rc v0 v1 v2 (v3 + (1 : Int32)) m_6))) else rc v0 v1 v2 (v3 + (1 : Int32)) m_4)))))))
def L_X10_chooses_4 (N : Nat) : Nat → Nat → Int32 → Int32 → Int32 → Mem → Option (Int32 × Mem)
  | 0 => fun _ _ _ _ _ => none
  | n + 1 => T_X10_chooses_4 N (L_X10_chooses_4 N n)
def f_X10_chooses (N : Nat) (v0 : Nat) (v1 : Int32) (m : Mem) : Option (Int32 × Mem) :=
  l2 (L_X10_chooses_4 N N v0 v1 (-1 : Int32) (0 : Int32) m) (fun v2_20 m_20 => some (v2_20, m_20))
def B_X10_assignAll_89 (N : Nat) (rc : Nat → Int32 → Int32 → Int32 → Int32 → Mem → Option (Nat × Int32 × Int32 × Int32 × Mem)) (v0 : Nat) (v1 : Int32) (v2 : Int32) (v3 : Int32) (v4 : Int32) (s0 : Int32) (m : Mem) : Option (Nat × Int32 × Int32 × Int32 × Mem) :=
  (if s0 = (-1 : Int32) then rc v0 v1 v2 v3 (v4 + (1 : Int32)) m else gd (kd v0 == 10) (gd (okA 12 (gR m v0 3) ((14 : Int32) + s0)) (wr (sI m (gR m v0 3) ((14 : Int32) + s0).toNatClampNeg ((gI m (gR m v0 3) ((14 : Int32) + s0).toNatClampNeg) ||| ((1 : Int32) <<< (v4 &&& 31)))) (fun m_14 => rc v0 v1 (v2 + (1 : Int32)) v3 (v4 + (1 : Int32)) m_14))))
def B_X10_assignAll_88 (N : Nat) (rc : Nat → Int32 → Int32 → Int32 → Int32 → Mem → Option (Nat × Int32 × Int32 × Int32 × Mem)) (v0 : Nat) (v1 : Int32) (v2 : Int32) (v3 : Int32) (v4 : Int32) (m : Mem) : Option (Nat × Int32 × Int32 × Int32 × Mem) :=
  B_X10_assignAll_89 N rc v0 v1 v2 v3 v4 (-1 : Int32) m
def T_X10_assignAll_47 (N : Nat) (rc : Nat → Int32 → Int32 → Int32 → Int32 → Mem → Option (Nat × Int32 × Int32 × Int32 × Mem)) (v0 : Nat) (v1 : Int32) (v2 : Int32) (v3 : Int32) (v4 : Int32) (m : Mem) : Option (Nat × Int32 × Int32 × Int32 × Mem) :=
  gd (kd v0 == 10) (gd (okA 12 (gR m v0 1) (2 : Int32)) ((if (gI m (gR m v0 1) (2 : Int32).toNatClampNeg) ≤ v4 then some ((v0, v1, v2, v3, m)) else b2 (f_X10_proposal N v0 v4 (0 : Int32) m) (fun r_11 m_11 => (if r_11 = v1 then b2 (f_X10_reviewsOf N v0 v4 m_11) (fun r_16 m_16 => (if v3 ≤ r_16 then B_X10_assignAll_88 N rc v0 v1 v2 v3 v4 m_16 else b2 (f_X10_chooses N v0 v4 m_16) (fun r_17 m_17 => B_X10_assignAll_89 N rc v0 v1 v2 v3 v4 r_17 m_17))) else B_X10_assignAll_88 N rc v0 v1 v2 v3 v4 m_11)))))
def L_X10_assignAll_47 (N : Nat) : Nat → Nat → Int32 → Int32 → Int32 → Int32 → Mem → Option (Nat × Int32 × Int32 × Int32 × Mem)
  | 0 => fun _ _ _ _ _ _ => none
  | n + 1 => T_X10_assignAll_47 N (L_X10_assignAll_47 N n)
def T_X10_assignAll_34 (N : Nat) (rc : Nat → Int32 → Int32 → Int32 → Mem → Option (Int32 × Mem)) (v0 : Nat) (v1 : Int32) (v2 : Int32) (v3 : Int32) (m : Mem) : Option (Int32 × Mem) :=
  gd (kd v0 == 10) (gd (okA 12 (gR m v0 1) (3 : Int32)) ((if (gI m (gR m v0 1) (3 : Int32).toNatClampNeg) < v3 then some ((v2, m)) else l5 (L_X10_assignAll_47 N N v0 v1 v2 v3 (0 : Int32) m) (fun v0_21 v1_21 v2_21 v3_21 m_21 => rc v0_21 v1_21 v2_21 (v3_21 + (1 : Int32)) m_21))))
def L_X10_assignAll_34 (N : Nat) : Nat → Nat → Int32 → Int32 → Int32 → Mem → Option (Int32 × Mem)
  | 0 => fun _ _ _ _ _ => none
  | n + 1 => T_X10_assignAll_34 N (L_X10_assignAll_34 N n)
def B_X10_assignAll_14 (N : Nat) (v0 : Nat) (v1 : Int32) (s0 : Int32) (s1 : Nat) (m : Mem) : Option (Int32 × Mem) :=
  gd (kd s1 == 10) (wr (sI m s1 0 s0) (fun m_4 => gd (kd v0 == 10) ((if (gI m_4 v0 0) ≤ 0 then b1 (f_X10_keeps N v0 m_4) (fun m_6 => l2 (L_X10_assignAll_34 N N v0 v1 (0 : Int32) (1 : Int32) m_6) (fun v2_23 m_23 => some (v2_23, m_23))) else some ((0 : Int32), m_4)))))
def f_X10_assignAll (N : Nat) (v0 : Nat) (v1 : Int32) (m : Mem) : Option (Int32 × Mem) :=
  gd (kd v0 == 10) (b2 (f_X10_isPanel N v0 v1 m) (fun r_2 m_2 => (if r_2 = 0 then B_X10_assignAll_14 N v0 v1 (1 : Int32) v0 m_2 else B_X10_assignAll_14 N v0 v1 (0 : Int32) v0 m_2)))
def T_X10_reviewerOf_37 (N : Nat) (rc : Nat → Int32 → Int32 → Int32 → Int32 → Mem → Option ((Mem) ⊕ (Int32 × Mem))) (v0 : Nat) (v1 : Int32) (v2 : Int32) (v3 : Int32) (v4 : Int32) (m : Mem) : Option ((Mem) ⊕ (Int32 × Mem)) :=
  gd (kd v0 == 10) (gd (okA 12 (gR m v0 1) (1 : Int32)) ((if (gI m (gR m v0 1) (1 : Int32).toNatClampNeg) ≤ v4 then some (.inl (m)) else (if (gI m v0 0) = 0 then b2 (f_X10_isReview N v0 v4 v1 m) (fun r_7 m_7 => (if r_7 = 0 then rc v0 v1 v2 v3 (v4 + (1 : Int32)) m_7 else (if v3 = v2 then some (.inr ((v4, m_7))) else rc v0 v1 v2 (v3 + (1 : Int32)) (v4 + (1 : Int32)) m_7))) else some (.inl (m))))))
def L_X10_reviewerOf_37 (N : Nat) : Nat → Nat → Int32 → Int32 → Int32 → Int32 → Mem → Option ((Mem) ⊕ (Int32 × Mem))
  | 0 => fun _ _ _ _ _ _ => none
  | n + 1 => T_X10_reviewerOf_37 N (L_X10_reviewerOf_37 N n)
def B_X10_reviewerOf_29 (N : Nat) (v0 : Nat) (v1 : Int32) (v2 : Int32) (s0 : Int32) (s1 : Nat) (m : Mem) : Option (Int32 × Mem) :=
  gd (kd s1 == 10) (wr (sI m s1 0 s0) (fun m_4 => (L_X10_reviewerOf_37 N N v0 v1 v2 (0 : Int32) (0 : Int32) m_4).bind (fun x9 => match x9 with | .inl (m_12) => some ((0 : Int32), m_12) | .inr ((v4_12, m_12)) => some (v4_12, m_12))))
def B_X10_reviewerOf_28 (N : Nat) (v0 : Nat) (v1 : Int32) (v2 : Int32) (s0 : Nat) (m : Mem) : Option (Int32 × Mem) :=
  B_X10_reviewerOf_29 N v0 v1 v2 (1 : Int32) s0 m
def f_X10_reviewerOf (N : Nat) (v0 : Nat) (v1 : Int32) (v2 : Int32) (m : Mem) : Option (Int32 × Mem) :=
  gd (kd v0 == 10) (b2 (f_X10_isProposal N v0 v1 m) (fun r_2 m_2 => (if r_2 = 0 then B_X10_reviewerOf_28 N v0 v1 v2 v0 m_2 else b2 (f_X10_reviewsOf N v0 v1 m_2) (fun r_13 m_13 => b2 (f_X10_in N v2 (0 : Int32) (r_13 - (1 : Int32)) m_13) (fun r_14 m_14 => (if r_14 = 0 then B_X10_reviewerOf_28 N v0 v1 v2 v0 m_14 else B_X10_reviewerOf_29 N v0 v1 v2 (0 : Int32) v0 m_14))))))
def B_X10_loadOf_14 (N : Nat) (v0 : Nat) (v1 : Int32) (s0 : Int32) (s1 : Nat) (m : Mem) : Option (Int32 × Mem) :=
  gd (kd s1 == 10) (wr (sI m s1 0 s0) (fun m_4 => gd (kd v0 == 10) ((if (gI m_4 v0 0) ≤ 0 then b2 (f_X10_reviewsBy N v0 v1 m_4) (fun r_6 m_6 => some (r_6, m_6)) else some ((0 : Int32), m_4)))))
def f_X10_loadOf (N : Nat) (v0 : Nat) (v1 : Int32) (m : Mem) : Option (Int32 × Mem) :=
  gd (kd v0 == 10) (b2 (f_X10_isReviewer N v0 v1 m) (fun r_2 m_2 => (if r_2 = 0 then B_X10_loadOf_14 N v0 v1 (1 : Int32) v0 m_2 else B_X10_loadOf_14 N v0 v1 (0 : Int32) v0 m_2)))
def B_X10_matchSum_83 (N : Nat) (rc : Nat → Int32 → Int32 → Int32 → Int32 → Mem → Option (Nat × Int32 × Int32 × Int32 × Mem)) (v0 : Nat) (v1 : Int32) (v3 : Int32) (v4 : Int32) (s0 : Int32) (m : Mem) : Option (Nat × Int32 × Int32 × Int32 × Mem) :=
  rc v0 v1 (s0 + (0 : Int32)) v3 (v4 + (1 : Int32)) m
def T_X10_matchSum_41 (N : Nat) (rc : Nat → Int32 → Int32 → Int32 → Int32 → Mem → Option (Nat × Int32 × Int32 × Int32 × Mem)) (v0 : Nat) (v1 : Int32) (v2 : Int32) (v3 : Int32) (v4 : Int32) (m : Mem) : Option (Nat × Int32 × Int32 × Int32 × Mem) :=
  gd (kd v0 == 10) (gd (okA 12 (gR m v0 1) (1 : Int32)) ((if (gI m (gR m v0 1) (1 : Int32).toNatClampNeg) ≤ v4 then some ((v0, v1, v2, v3, m)) else b2 (f_X10_proposal N v0 v3 (0 : Int32) m) (fun r_9 m_9 => (if r_9 = v1 then b2 (f_X10_isReview N v0 v4 v3 m_9) (fun r_10 m_10 => (if r_10 = 0 then B_X10_matchSum_83 N rc v0 v1 v3 v4 v2 m_10 else b2 (f_X10_matches N v0 v4 v3 m_10) (fun r_11 m_11 => rc v0 v1 (v2 + r_11) v3 (v4 + (1 : Int32)) m_11))) else B_X10_matchSum_83 N rc v0 v1 v3 v4 v2 m_9)))))
def L_X10_matchSum_41 (N : Nat) : Nat → Nat → Int32 → Int32 → Int32 → Int32 → Mem → Option (Nat × Int32 × Int32 × Int32 × Mem)
  | 0 => fun _ _ _ _ _ _ => none
  | n + 1 => T_X10_matchSum_41 N (L_X10_matchSum_41 N n)
def T_X10_matchSum_21 (N : Nat) (rc : Nat → Int32 → Int32 → Int32 → Mem → Option (Int32 × Mem)) (v0 : Nat) (v1 : Int32) (v2 : Int32) (v3 : Int32) (m : Mem) : Option (Int32 × Mem) :=
  gd (kd v0 == 10) (gd (okA 12 (gR m v0 1) (2 : Int32)) ((if (gI m (gR m v0 1) (2 : Int32).toNatClampNeg) ≤ v3 then some ((v2, m)) else (if (gI m v0 0) = 0 then l5 (L_X10_matchSum_41 N N v0 v1 v2 v3 (0 : Int32) m) (fun v0_15 v1_15 v2_15 v3_15 m_15 => rc v0_15 v1_15 v2_15 (v3_15 + (1 : Int32)) m_15) else some ((v2, m))))))
def L_X10_matchSum_21 (N : Nat) : Nat → Nat → Int32 → Int32 → Int32 → Mem → Option (Int32 × Mem)
  | 0 => fun _ _ _ _ _ => none
  | n + 1 => T_X10_matchSum_21 N (L_X10_matchSum_21 N n)
def B_X10_matchSum_14 (N : Nat) (v0 : Nat) (v1 : Int32) (s0 : Int32) (s1 : Nat) (m : Mem) : Option (Int32 × Mem) :=
  gd (kd s1 == 10) (wr (sI m s1 0 s0) (fun m_4 => l2 (L_X10_matchSum_21 N N v0 v1 (0 : Int32) (0 : Int32) m_4) (fun v2_18 m_18 => some (v2_18, m_18))))
def f_X10_matchSum (N : Nat) (v0 : Nat) (v1 : Int32) (m : Mem) : Option (Int32 × Mem) :=
  gd (kd v0 == 10) (b2 (f_X10_isPanel N v0 v1 m) (fun r_2 m_2 => (if r_2 = 0 then B_X10_matchSum_14 N v0 v1 (1 : Int32) v0 m_2 else B_X10_matchSum_14 N v0 v1 (0 : Int32) v0 m_2)))
def T_X10_takenOf_4 (N : Nat) (rc : Nat → Int32 → Int32 → Int32 → Mem → Option (Int32 × Mem)) (v0 : Nat) (v1 : Int32) (v2 : Int32) (v3 : Int32) (m : Mem) : Option (Int32 × Mem) :=
  gd (kd v0 == 10) (gd (okA 12 (gR m v0 1) (1 : Int32)) ((if (gI m (gR m v0 1) (1 : Int32).toNatClampNeg) ≤ v3 then some ((v2, m)) else gd (okA 12 (gR m v0 12) v3) (b2 (f_X10_has N (gI m (gR m v0 12) v3.toNatClampNeg) v1 m) (fun r_4 m_4 => (if r_4 = 0 then rc v0 v1 (v2 + (0 : Int32)) (v3 + (1 : Int32)) m_4 else rc v0 v1 (v2 + (1 : Int32)) (v3 + (1 : Int32)) m_4))))))
def L_X10_takenOf_4 (N : Nat) : Nat → Nat → Int32 → Int32 → Int32 → Mem → Option (Int32 × Mem)
  | 0 => fun _ _ _ _ _ => none
  | n + 1 => T_X10_takenOf_4 N (L_X10_takenOf_4 N n)
def f_X10_takenOf (N : Nat) (v0 : Nat) (v1 : Int32) (m : Mem) : Option (Int32 × Mem) :=
  l2 (L_X10_takenOf_4 N N v0 v1 (0 : Int32) (0 : Int32) m) (fun v2_7 m_7 => some (v2_7, m_7))
def f_X10_reaches (N : Nat) (v0 : Nat) (v1 : Int32) (v2 : Int32) (v3 : Int32) (m : Mem) : Option (Int32 × Mem) :=
  gd (kd v0 == 10) (gd (okA 12 (gR m v0 13) v1) ((if (gI m (gR m v0 13) v1.toNatClampNeg) < v2 then wr (sI m (gR m v0 13) v1.toNatClampNeg v2) (fun m_3 => gd (okA 12 (gR m_3 v0 14) v1) (wr (sI m_3 (gR m_3 v0 14) v1.toNatClampNeg v3) (fun m_5 => gd (isB (1 : Int32)) (some ((1 : Int32), m_5))))) else gd (isB (0 : Int32)) (some ((0 : Int32), m)))))
def B_X10_reachesMore_161 (N : Nat) (rc : Nat → Int32 → Int32 → Int32 → Int32 → Mem → Option (Nat × Int32 × Int32 × Int32 × Mem)) (v0 : Nat) (v1 : Int32) (v3 : Int32) (v4 : Int32) (s0 : Int32) (s1 : Int32) (m : Mem) : Option (Nat × Int32 × Int32 × Int32 × Mem) :=
  rc v0 v1 (s1 ||| s0) v3 (v4 + (1 : Int32)) m
def B_X10_reachesMore_160 (N : Nat) (rc : Nat → Int32 → Int32 → Int32 → Int32 → Mem → Option (Nat × Int32 × Int32 × Int32 × Mem)) (v0 : Nat) (v1 : Int32) (v3 : Int32) (v4 : Int32) (s0 : Int32) (m : Mem) : Option (Nat × Int32 × Int32 × Int32 × Mem) :=
  B_X10_reachesMore_161 N rc v0 v1 v3 v4 (0 : Int32) s0 m
def B_X10_reachesMore_115 (N : Nat) (rc : Nat → Int32 → Int32 → Int32 → Int32 → Mem → Option (Nat × Int32 × Int32 × Int32 × Mem)) (v0 : Nat) (v1 : Int32) (v3 : Int32) (v4 : Int32) (s0 : Int32) (s1 : Int32) (m : Mem) : Option (Nat × Int32 × Int32 × Int32 × Mem) :=
  rc v0 v1 (s1 ||| s0) v3 (v4 + (1 : Int32)) m
def B_X10_reachesMore_114 (N : Nat) (rc : Nat → Int32 → Int32 → Int32 → Int32 → Mem → Option (Nat × Int32 × Int32 × Int32 × Mem)) (v0 : Nat) (v1 : Int32) (v3 : Int32) (v4 : Int32) (s0 : Int32) (m : Mem) : Option (Nat × Int32 × Int32 × Int32 × Mem) :=
  B_X10_reachesMore_115 N rc v0 v1 v3 v4 (0 : Int32) s0 m
def T_X10_reachesMore_17 (N : Nat) (rc : Nat → Int32 → Int32 → Int32 → Int32 → Mem → Option (Nat × Int32 × Int32 × Int32 × Mem)) (v0 : Nat) (v1 : Int32) (v2 : Int32) (v3 : Int32) (v4 : Int32) (m : Mem) : Option (Nat × Int32 × Int32 × Int32 × Mem) :=
  gd (kd v0 == 10) (gd (okA 12 (gR m v0 1) (1 : Int32)) ((if (gI m (gR m v0 1) (1 : Int32).toNatClampNeg) ≤ v4 then some ((v0, v1, v2, v3, m)) else b2 (f_X10_proposal N v0 v3 (0 : Int32) m) (fun r_5 m_5 => (if r_5 = v1 then b2 (f_X10_fits N v0 v4 v3 m_5) (fun r_6 m_6 => (if r_6 = 0 then rc v0 v1 v2 v3 (v4 + (1 : Int32)) m_6 else gd (okA 12 (gR m_6 v0 12) v4) (b2 (f_X10_has N (gI m_6 (gR m_6 v0 12) v4.toNatClampNeg) v3 m_6) (fun r_8 m_8 => (if r_8 = 0 then gd (okA 12 (gR m_8 v0 13) v3) ((if (gI m_8 (gR m_8 v0 13) v3.toNatClampNeg) ≤ (-1000000 : Int32) then B_X10_reachesMore_160 N rc v0 v1 v3 v4 v2 m_8 else b2 (f_X10_matches N v0 v4 v3 m_8) (fun r_10 m_10 => b2 (f_X10_reaches N v0 ((16 : Int32) + v4) ((gI m_8 (gR m_8 v0 13) v3.toNatClampNeg) + r_10) v3 m_10) (fun r_11 m_11 => (if r_11 = 0 then B_X10_reachesMore_160 N rc v0 v1 v3 v4 v2 m_11 else B_X10_reachesMore_161 N rc v0 v1 v3 v4 (1 : Int32) v2 m_11))))) else gd (okA 12 (gR m_8 v0 13) ((16 : Int32) + v4)) ((if (gI m_8 (gR m_8 v0 13) ((16 : Int32) + v4).toNatClampNeg) ≤ (-1000000 : Int32) then B_X10_reachesMore_114 N rc v0 v1 v3 v4 v2 m_8 else b2 (f_X10_matches N v0 v4 v3 m_8) (fun r_15 m_15 => b2 (f_X10_reaches N v0 v3 ((gI m_8 (gR m_8 v0 13) ((16 : Int32) + v4).toNatClampNeg) - r_15) ((16 : Int32) + v4) m_15) (fun r_16 m_16 => (if r_16 = 0 then B_X10_reachesMore_114 N rc v0 v1 v3 v4 v2 m_16 else B_X10_reachesMore_115 N rc v0 v1 v3 v4 (1 : Int32) v2 m_16)))))))))) else some ((v0, v1, v2, v3, m_5)))))))
def L_X10_reachesMore_17 (N : Nat) : Nat → Nat → Int32 → Int32 → Int32 → Int32 → Mem → Option (Nat × Int32 × Int32 × Int32 × Mem)
  | 0 => fun _ _ _ _ _ _ => none
  | n + 1 => T_X10_reachesMore_17 N (L_X10_reachesMore_17 N n)
def T_X10_reachesMore_4 (N : Nat) (rc : Nat → Int32 → Int32 → Int32 → Mem → Option (Int32 × Mem)) (v0 : Nat) (v1 : Int32) (v2 : Int32) (v3 : Int32) (m : Mem) : Option (Int32 × Mem) :=
  gd (kd v0 == 10) (gd (okA 12 (gR m v0 1) (2 : Int32)) ((if (gI m (gR m v0 1) (2 : Int32).toNatClampNeg) ≤ v3 then some ((v2, m)) else l5 (L_X10_reachesMore_17 N N v0 v1 v2 v3 (0 : Int32) m) (fun v0_23 v1_23 v2_23 v3_23 m_23 => rc v0_23 v1_23 v2_23 (v3_23 + (1 : Int32)) m_23))))
def L_X10_reachesMore_4 (N : Nat) : Nat → Nat → Int32 → Int32 → Int32 → Mem → Option (Int32 × Mem)
  | 0 => fun _ _ _ _ _ => none
  | n + 1 => T_X10_reachesMore_4 N (L_X10_reachesMore_4 N n)
def f_X10_reachesMore (N : Nat) (v0 : Nat) (v1 : Int32) (m : Mem) : Option (Int32 × Mem) :=
  l2 (L_X10_reachesMore_4 N N v0 v1 (0 : Int32) (0 : Int32) m) (fun v2_25 m_25 => gd (isB v2_25) (some (v2_25, m_25)))
def T_X10_goesOn_2 (N : Nat) (rc : Nat → Int32 → Int32 → Mem → Option (Nat × Int32 × Mem)) (v0 : Nat) (v1 : Int32) (v2 : Int32) (m : Mem) : Option (Nat × Int32 × Mem) :=
  (if (28 : Int32) ≤ v2 then some ((v0, v1, m)) else gd (kd v0 == 10) (gd (okA 12 (gR m v0 13) v2) (wr (sI m (gR m v0 13) v2.toNatClampNeg (-1000000 : Int32)) (fun m_3 => gd (okA 12 (gR m_3 v0 14) v2) (wr (sI m_3 (gR m_3 v0 14) v2.toNatClampNeg (-1 : Int32)) (fun m_5 => rc v0 v1 (v2 + (1 : Int32)) m_5))))))
def L_X10_goesOn_2 (N : Nat) : Nat → Nat → Int32 → Int32 → Mem → Option (Nat × Int32 × Mem)
  | 0 => fun _ _ _ _ => none
  | n + 1 => T_X10_goesOn_2 N (L_X10_goesOn_2 N n)
def B_X10_goesOn_76 (N : Nat) (rc : Nat → Int32 → Int32 → Mem → Option (Nat × Int32 × Mem)) (v0 : Nat) (v1 : Int32) (v2 : Int32) (s0 : Int32) (s1 : Int32) (s2 : Nat) (m : Mem) : Option (Nat × Int32 × Mem) :=
  gd (okA 12 s2 s1) (wr (sI m s2 s1.toNatClampNeg s0) (fun m_12 => rc v0 v1 (v2 + (1 : Int32)) m_12))
def B_X10_goesOn_74 (N : Nat) (rc : Nat → Int32 → Int32 → Mem → Option (Nat × Int32 × Mem)) (v0 : Nat) (v1 : Int32) (v2 : Int32) (s0 : Int32) (s1 : Nat) (m : Mem) : Option (Nat × Int32 × Mem) :=
  B_X10_goesOn_76 N rc v0 v1 v2 (-1000000 : Int32) s0 s1 m
def T_X10_goesOn_31 (N : Nat) (rc : Nat → Int32 → Int32 → Mem → Option (Nat × Int32 × Mem)) (v0 : Nat) (v1 : Int32) (v2 : Int32) (m : Mem) : Option (Nat × Int32 × Mem) :=
  gd (kd v0 == 10) (gd (okA 12 (gR m v0 1) (2 : Int32)) ((if (gI m (gR m v0 1) (2 : Int32).toNatClampNeg) ≤ v2 then some ((v0, v1, m)) else b2 (f_X10_proposal N v0 v2 (0 : Int32) m) (fun r_10 m_10 => (if r_10 = v1 then b2 (f_X10_takenOf N v0 v2 m_10) (fun r_13 m_13 => gd (okA 12 (gR m_13 v0 1) (3 : Int32)) ((if (gI m_13 (gR m_13 v0 1) (3 : Int32).toNatClampNeg) ≤ r_13 then B_X10_goesOn_74 N rc v0 v1 v2 v2 (gR m v0 13) m_13 else B_X10_goesOn_76 N rc v0 v1 v2 (0 : Int32) v2 (gR m v0 13) m_13))) else B_X10_goesOn_74 N rc v0 v1 v2 v2 (gR m v0 13) m_10)))))
def L_X10_goesOn_31 (N : Nat) : Nat → Nat → Int32 → Int32 → Mem → Option (Nat × Int32 × Mem)
  | 0 => fun _ _ _ _ => none
  | n + 1 => T_X10_goesOn_31 N (L_X10_goesOn_31 N n)
def T_X10_goesOn_85 (N : Nat) (rc : Nat → Int32 → Int32 → Mem → Option (Nat × Mem)) (v0 : Nat) (v1 : Int32) (v2 : Int32) (m : Mem) : Option (Nat × Mem) :=
  (if v2 = 0 then some ((v0, m)) else gd (kd v0 == 10) (b2 (f_X10_reachesMore N v0 v1 m) (fun r_20 m_20 => rc v0 v1 r_20 m_20)))
def L_X10_goesOn_85 (N : Nat) : Nat → Nat → Int32 → Int32 → Mem → Option (Nat × Mem)
  | 0 => fun _ _ _ _ => none
  | n + 1 => T_X10_goesOn_85 N (L_X10_goesOn_85 N n)
def B_X10_goesOn_193 (N : Nat) (rc : Nat → Int32 → Int32 → Mem → Option (Int32 × Mem)) (v0 : Nat) (v3 : Int32) (v4 : Int32) (m : Mem) : Option (Int32 × Mem) :=
  rc v0 v3 (v4 + (1 : Int32)) m
def B_X10_goesOn_188 (N : Nat) (rc : Nat → Int32 → Int32 → Mem → Option (Int32 × Mem)) (v0 : Nat) (v4 : Int32) (m : Mem) : Option (Int32 × Mem) :=
  rc v0 v4 (v4 + (1 : Int32)) m
def B_X10_goesOn_154 (N : Nat) (rc : Nat → Int32 → Int32 → Mem → Option (Int32 × Mem)) (v0 : Nat) (v3 : Int32) (v4 : Int32) (s0 : Int32) (m : Mem) : Option (Int32 × Mem) :=
  (if s0 = 0 then B_X10_goesOn_193 N rc v0 v3 v4 m else (if v3 = (-1 : Int32) then B_X10_goesOn_188 N rc v0 v4 m else gd (kd v0 == 10) (gd (okA 12 (gR m v0 13) ((16 : Int32) + v4)) (gd (okA 12 (gR m v0 13) ((16 : Int32) + v3)) ((if (gI m (gR m v0 13) ((16 : Int32) + v4).toNatClampNeg) ≤ (gI m (gR m v0 13) ((16 : Int32) + v3).toNatClampNeg) then B_X10_goesOn_193 N rc v0 v3 v4 m else B_X10_goesOn_188 N rc v0 v4 m))))))
def B_X10_goesOn_153 (N : Nat) (rc : Nat → Int32 → Int32 → Mem → Option (Int32 × Mem)) (v0 : Nat) (v3 : Int32) (v4 : Int32) (m : Mem) : Option (Int32 × Mem) :=
  B_X10_goesOn_154 N rc v0 v3 v4 (0 : Int32) m
def T_X10_goesOn_103 (N : Nat) (rc : Nat → Int32 → Int32 → Mem → Option (Int32 × Mem)) (v0 : Nat) (v3 : Int32) (v4 : Int32) (m : Mem) : Option (Int32 × Mem) :=
  gd (kd v0 == 10) (gd (okA 12 (gR m v0 1) (1 : Int32)) ((if (gI m (gR m v0 1) (1 : Int32).toNatClampNeg) ≤ v4 then some ((v3, m)) else gd (okA 12 (gR m v0 13) ((16 : Int32) + v4)) ((if (gI m (gR m v0 13) ((16 : Int32) + v4).toNatClampNeg) ≤ (-1000000 : Int32) then B_X10_goesOn_153 N rc v0 v3 v4 m else gd (okA 12 (gR m v0 12) v4) (b2 (f_X10_bits N (gI m (gR m v0 12) v4.toNatClampNeg) m) (fun r_33 m_33 => b2 (f_X10_reviewer N v0 v4 (2 : Int32) m_33) (fun r_34 m_34 => (if r_34 ≤ r_33 then B_X10_goesOn_153 N rc v0 v3 v4 m_34 else B_X10_goesOn_154 N rc v0 v3 v4 (1 : Int32) m_34)))))))))
def L_X10_goesOn_103 (N : Nat) : Nat → Nat → Int32 → Int32 → Mem → Option (Int32 × Mem)
  | 0 => fun _ _ _ _ => none
  | n + 1 => T_X10_goesOn_103 N (L_X10_goesOn_103 N n)
def f_X10_goesOn (N : Nat) (v0 : Nat) (v1 : Int32) (m : Mem) : Option (Int32 × Mem) :=
  l3 (L_X10_goesOn_2 N N v0 v1 (0 : Int32) m) (fun v0_7 v1_7 m_7 => l3 (L_X10_goesOn_31 N N v0_7 v1_7 (0 : Int32) m_7) (fun v0_18 v1_18 m_18 => l2 (L_X10_goesOn_85 N N v0_18 v1_18 (1 : Int32) m_18) (fun v0_22 m_22 => l2 (L_X10_goesOn_103 N N v0_22 (-1 : Int32) (0 : Int32) m_22) (fun v3_38 m_38 => some (v3_38, m_38)))))
def T_X10_finds_2 (N : Nat) (rc : Nat → Int32 → Int32 → Mem → Option (Nat × Int32 × Mem)) (v0 : Nat) (v1 : Int32) (v2 : Int32) (m : Mem) : Option (Nat × Int32 × Mem) :=
  (if (12 : Int32) ≤ v2 then some ((v0, v1, m)) else gd (kd v0 == 10) (gd (okA 12 (gR m v0 12) v2) (wr (sI m (gR m v0 12) v2.toNatClampNeg (0 : Int32)) (fun m_3 => rc v0 v1 (v2 + (1 : Int32)) m_3))))
def L_X10_finds_2 (N : Nat) : Nat → Nat → Int32 → Int32 → Mem → Option (Nat × Int32 × Mem)
  | 0 => fun _ _ _ _ => none
  | n + 1 => T_X10_finds_2 N (L_X10_finds_2 N n)
def B_X10_finds_127 (N : Nat) (rc : Nat → Int32 → Int32 → Mem → Option (Nat × Int32 × Mem)) (v0 : Nat) (v1 : Int32) (v4 : Int32) (s0 : Int32) (s1 : Int32) (s2 : Int32) (s3 : Int32) (s4 : Nat) (m : Mem) : Option (Nat × Int32 × Mem) :=
  gd (okA 12 s4 s3) (wr (sI m s4 s3.toNatClampNeg (s2 ^^^ (s1 <<< (s0 &&& 31)))) (fun m_18 => rc v0 v1 v4 m_18))
def B_X10_finds_109 (N : Nat) (rc : Nat → Int32 → Int32 → Mem → Option (Nat × Int32 × Mem)) (v0 : Nat) (v1 : Int32) (v3 : Int32) (v4 : Int32) (s0 : Int32) (s1 : Nat) (m : Mem) : Option (Nat × Int32 × Mem) :=
  gd (okA 12 s1 (s0 - (16 : Int32))) ((if (16 : Int32) ≤ v3 then B_X10_finds_127 N rc v0 v1 v4 v4 (1 : Int32) (gI m s1 (s0 - (16 : Int32)).toNatClampNeg) (s0 - (16 : Int32)) s1 m else B_X10_finds_127 N rc v0 v1 v4 v3 (1 : Int32) (gI m s1 (s0 - (16 : Int32)).toNatClampNeg) (s0 - (16 : Int32)) s1 m))
def T_X10_finds_75 (N : Nat) (rc : Nat → Int32 → Int32 → Mem → Option (Nat × Int32 × Mem)) (v0 : Nat) (v1 : Int32) (v3 : Int32) (m : Mem) : Option (Nat × Int32 × Mem) :=
  gd (kd v0 == 10) (gd (okA 12 (gR m v0 14) v3) ((if (gI m (gR m v0 14) v3.toNatClampNeg) = (-1 : Int32) then some ((v0, v1, m)) else (if (16 : Int32) ≤ v3 then B_X10_finds_109 N rc v0 v1 v3 (gI m (gR m v0 14) v3.toNatClampNeg) v3 (gR m v0 12) m else B_X10_finds_109 N rc v0 v1 v3 (gI m (gR m v0 14) v3.toNatClampNeg) (gI m (gR m v0 14) v3.toNatClampNeg) (gR m v0 12) m))))
def L_X10_finds_75 (N : Nat) : Nat → Nat → Int32 → Int32 → Mem → Option (Nat × Int32 × Mem)
  | 0 => fun _ _ _ _ => none
  | n + 1 => T_X10_finds_75 N (L_X10_finds_75 N n)
def T_X10_finds_37 (N : Nat) (rc : Nat → Int32 → Int32 → Mem → Option (Mem)) (v0 : Nat) (v1 : Int32) (v2 : Int32) (m : Mem) : Option (Mem) :=
  (if v2 = (-1 : Int32) then some (m) else gd (kd v0 == 10) (wr (sI m v0 15 ((gI m v0 15) + (1 : Int32))) (fun m_11 => gd (okA 12 (gR m_11 v0 13) ((16 : Int32) + v2)) (wr (sI m_11 v0 16 ((gI m_11 v0 16) + (gI m_11 (gR m_11 v0 13) ((16 : Int32) + v2).toNatClampNeg))) (fun m_13 => l3 (L_X10_finds_75 N N v0 v1 ((16 : Int32) + v2) m_13) (fun v0_22 v1_22 m_22 => gd (kd v0_22 == 10) (b2 (f_X10_goesOn N v0_22 v1_22 m_22) (fun r_24 m_24 => rc v0_22 v1_22 r_24 m_24))))))))
def L_X10_finds_37 (N : Nat) : Nat → Nat → Int32 → Int32 → Mem → Option (Mem)
  | 0 => fun _ _ _ _ => none
  | n + 1 => T_X10_finds_37 N (L_X10_finds_37 N n)
def f_X10_finds (N : Nat) (v0 : Nat) (v1 : Int32) (m : Mem) : Option (Mem) :=
  l3 (L_X10_finds_2 N N v0 v1 (0 : Int32) m) (fun v0_5 v1_5 m_5 => gd (kd v0_5 == 10) (wr (sI m_5 v0_5 15 (0 : Int32)) (fun m_7 => wr (sI m_7 v0_5 16 (0 : Int32)) (fun m_8 => b2 (f_X10_goesOn N v0_5 v1_5 m_8) (fun r_9 m_9 => l1 (L_X10_finds_37 N N v0_5 v1_5 r_9 m_9) (fun  m_26 => some (m_26)))))))
def B_X10_mostReviews_14 (N : Nat) (v0 : Nat) (v1 : Int32) (s0 : Int32) (s1 : Nat) (m : Mem) : Option (Int32 × Mem) :=
  gd (kd s1 == 10) (wr (sI m s1 0 s0) (fun m_4 => gd (kd v0 == 10) ((if (gI m_4 v0 0) ≤ 0 then b1 (f_X10_finds N v0 v1 m_4) (fun m_6 => some (gI m_6 v0 15, m_6)) else some ((0 : Int32), m_4)))))
def f_X10_mostReviews (N : Nat) (v0 : Nat) (v1 : Int32) (m : Mem) : Option (Int32 × Mem) :=
  gd (kd v0 == 10) (b2 (f_X10_isPanel N v0 v1 m) (fun r_2 m_2 => (if r_2 = 0 then B_X10_mostReviews_14 N v0 v1 (1 : Int32) v0 m_2 else B_X10_mostReviews_14 N v0 v1 (0 : Int32) v0 m_2)))
def B_X10_bestMatchSum_14 (N : Nat) (v0 : Nat) (v1 : Int32) (s0 : Int32) (s1 : Nat) (m : Mem) : Option (Int32 × Mem) :=
  gd (kd s1 == 10) (wr (sI m s1 0 s0) (fun m_4 => gd (kd v0 == 10) ((if (gI m_4 v0 0) ≤ 0 then b1 (f_X10_finds N v0 v1 m_4) (fun m_6 => some (gI m_6 v0 16, m_6)) else some ((0 : Int32), m_4)))))
def f_X10_bestMatchSum (N : Nat) (v0 : Nat) (v1 : Int32) (m : Mem) : Option (Int32 × Mem) :=
  gd (kd v0 == 10) (b2 (f_X10_isPanel N v0 v1 m) (fun r_2 m_2 => (if r_2 = 0 then B_X10_bestMatchSum_14 N v0 v1 (1 : Int32) v0 m_2 else B_X10_bestMatchSum_14 N v0 v1 (0 : Int32) v0 m_2)))
def B_X10_setScore_82 (N : Nat) (v4 : Int32) (s0 : Int32) (s1 : Int32) (s2 : Nat) (m : Mem) : Option (Int32 × Mem) :=
  gd (okA 12 s2 s1) (wr (sI m s2 s1.toNatClampNeg s0) (fun m_8 => b2 (f_X10_orNone N v4 m_8) (fun r_9 m_9 => some (r_9, m_9))))
def B_X10_setScore_32 (N : Nat) (v0 : Nat) (v1 : Int32) (v2 : Int32) (v3 : Int32) (m : Mem) : Option (Int32 × Mem) :=
  gd (kd v0 == 10) (b2 (f_X10_isReview N v0 v1 v2 m) (fun r_4 m_4 => (if r_4 = 0 then b2 (f_X10_fails N v0 (3 : Int32) m_4) (fun r_11 m_11 => some (r_11, m_11)) else b1 (f_X10_keeps N v0 m_4) (fun m_5 => b2 (f_X10_score N v0 v1 v2 m_5) (fun r_6 m_6 => (if v3 = (-1 : Int32) then B_X10_setScore_82 N r_6 (0 : Int32) (((26 : Int32) + ((16 : Int32) * v1)) + v2) (gR m_6 v0 3) m_6 else B_X10_setScore_82 N r_6 v3 (((26 : Int32) + ((16 : Int32) * v1)) + v2) (gR m_6 v0 3) m_6))))))
def f_X10_setScore (N : Nat) (v0 : Nat) (v1 : Int32) (v2 : Int32) (v3 : Int32) (m : Mem) : Option (Int32 × Mem) :=
  gd (kd v0 == 10) (b2 (f_X10_areBoth N v0 v1 v2 m) (fun r_2 m_2 => (if r_2 = 0 then some ((0 : Int32), m_2) else (if v3 = (-1 : Int32) then B_X10_setScore_32 N v0 v1 v2 v3 m_2 else b2 (f_X10_in N v3 (1 : Int32) (100 : Int32) m_2) (fun r_13 m_13 => (if r_13 = 0 then b2 (f_X10_fails N v0 (2 : Int32) m_13) (fun r_14 m_14 => some (r_14, m_14)) else B_X10_setScore_32 N v0 v1 v2 v3 m_13))))))
def f_X10_down (N : Nat) (v0 : Int64) (v2 : Int64) (m : Mem) : Option (Int32 × Mem) :=
  gd (!(v2 == 0)) ((if 0 ≤ (lg_cmp (v0 - v0 / v2 * v2) (0 : Int64)) then some ((v0 / v2).toInt32, m) else some (((v0 / v2) - (1 : Int64)).toInt32, m)))
def B_X10_adjust_31 (N : Nat) (rc : Nat → Int32 → Int32 → Int32 → Int32 → Int32 → Mem → Option (Nat × Int32 × Int32 × Int32 × Int32 × Mem)) (v0 : Nat) (v1 : Int32) (v2 : Int32) (v4 : Int32) (v5 : Int32) (s0 : Int32) (s1 : Int32) (m : Mem) : Option (Nat × Int32 × Int32 × Int32 × Int32 × Mem) :=
  gd (kd v0 == 10) (b2 (f_X10_score N v0 v1 v5 m) (fun r_4 m_4 => rc v0 v1 v2 (s1 + s0) (v4 + r_4) (v5 + (1 : Int32)) m_4))
def T_X10_adjust_8 (N : Nat) (rc : Nat → Int32 → Int32 → Int32 → Int32 → Int32 → Mem → Option (Nat × Int32 × Int32 × Int32 × Int32 × Mem)) (v0 : Nat) (v1 : Int32) (v2 : Int32) (v3 : Int32) (v4 : Int32) (v5 : Int32) (m : Mem) : Option (Nat × Int32 × Int32 × Int32 × Int32 × Mem) :=
  (if (16 : Int32) ≤ v5 then some ((v0, v1, v2, v3, v4, m)) else gd (kd v0 == 10) (b2 (f_X10_score N v0 v1 v5 m) (fun r_2 m_2 => (if r_2 ≤ 0 then B_X10_adjust_31 N rc v0 v1 v2 v4 v5 (0 : Int32) v3 m_2 else B_X10_adjust_31 N rc v0 v1 v2 v4 v5 (1 : Int32) v3 m_2))))
def L_X10_adjust_8 (N : Nat) : Nat → Nat → Int32 → Int32 → Int32 → Int32 → Int32 → Mem → Option (Nat × Int32 × Int32 × Int32 × Int32 × Mem)
  | 0 => fun _ _ _ _ _ _ _ => none
  | n + 1 => T_X10_adjust_8 N (L_X10_adjust_8 N n)
def B_X10_adjust_90 (N : Nat) (rc : Nat → Int32 → Int32 → Int32 → Int32 → Int32 → Int32 → Mem → Option (Nat × Int32 × Int32 × Int32 × Int32 × Int32 × Mem)) (v0 : Nat) (v1 : Int32) (v2 : Int32) (v3 : Int32) (v4 : Int32) (v5 : Int32) (v6 : Int32) (s0 : Int32) (m : Mem) : Option (Nat × Int32 × Int32 × Int32 × Int32 × Int32 × Mem) :=
  (if 0 ≤ s0 then rc v0 v1 v2 v3 v4 (v5 + s0) (v6 + (1 : Int32)) m else rc v0 v1 v2 v3 v4 (v5 + (-s0)) (v6 + (1 : Int32)) m)
def T_X10_adjust_57 (N : Nat) (rc : Nat → Int32 → Int32 → Int32 → Int32 → Int32 → Int32 → Mem → Option (Nat × Int32 × Int32 × Int32 × Int32 × Int32 × Mem)) (v0 : Nat) (v1 : Int32) (v2 : Int32) (v3 : Int32) (v4 : Int32) (v5 : Int32) (v6 : Int32) (m : Mem) : Option (Nat × Int32 × Int32 × Int32 × Int32 × Int32 × Mem) :=
  (if (16 : Int32) ≤ v6 then some ((v0, v1, v2, v3, v4, v5, m)) else gd (kd v0 == 10) (b2 (f_X10_score N v0 v1 v6 m) (fun r_9 m_9 => (if r_9 ≤ 0 then B_X10_adjust_90 N rc v0 v1 v2 v3 v4 v5 v6 (0 : Int32) m_9 else b2 (f_X10_score N v0 v1 v6 m_9) (fun r_11 m_11 => B_X10_adjust_90 N rc v0 v1 v2 v3 v4 v5 v6 ((v3 * r_11) - v4) m_11)))))
def L_X10_adjust_57 (N : Nat) : Nat → Nat → Int32 → Int32 → Int32 → Int32 → Int32 → Int32 → Mem → Option (Nat × Int32 × Int32 × Int32 × Int32 × Int32 × Mem)
  | 0 => fun _ _ _ _ _ _ _ _ => none
  | n + 1 => T_X10_adjust_57 N (L_X10_adjust_57 N n)
def f_X10_adjust (N : Nat) (v0 : Nat) (v1 : Int32) (v2 : Int32) (m : Mem) : Option (Int32 × Mem) :=
  l6 (L_X10_adjust_8 N N v0 v1 v2 (0 : Int32) (0 : Int32) (0 : Int32) m) (fun v0_7 v1_7 v2_7 v3_7 v4_7 m_7 => l7 (L_X10_adjust_57 N N v0_7 v1_7 v2_7 v3_7 v4_7 (0 : Int32) (0 : Int32) m_7) (fun v0_14 v1_14 v2_14 v3_14 v4_14 v5_14 m_14 => (if v5_14 = 0 then some ((50000 : Int32), m_14) else gd (kd v0_14 == 10) (b2 (f_X10_score N v0_14 v1_14 v2_14 m_14) (fun r_16 m_16 => b2 (f_X10_down N (((20000 : Int64) * v3_14.toInt64) * (((v3_14 * r_16) - v4_14).toInt64)) v5_14.toInt64 m_16) (fun r_17 m_17 => some ((50000 : Int32) + r_17, m_17)))))))
def f_X10_isScored (N : Nat) (v0 : Nat) (v1 : Int32) (v2 : Int32) (m : Mem) : Option (Int32 × Mem) :=
  gd (kd v0 == 10) (b2 (f_X10_score N v0 v1 v2 m) (fun r_2 m_2 => (if r_2 ≤ 0 then gd (isB (0 : Int32)) (some ((0 : Int32), m_2)) else gd (isB (1 : Int32)) (some ((1 : Int32), m_2)))))
def f_X10_adjusted (N : Nat) (v0 : Nat) (v1 : Int32) (v2 : Int32) (m : Mem) : Option (Int32 × Mem) :=
  gd (kd v0 == 10) (b2 (f_X10_areBoth N v0 v1 v2 m) (fun r_2 m_2 => (if r_2 = 0 then some ((0 : Int32), m_2) else b2 (f_X10_isScored N v0 v1 v2 m_2) (fun r_3 m_3 => (if r_3 = 0 then b2 (f_X10_fails N v0 (2 : Int32) m_3) (fun r_4 m_4 => some (r_4, m_4)) else b2 (f_X10_adjust N v0 v1 v2 m_3) (fun r_5 m_5 => some (r_5, m_5)))))))
def T_X10_scoresOf_4 (N : Nat) (rc : Nat → Int32 → Int32 → Int32 → Mem → Option (Int32 × Mem)) (v0 : Nat) (v1 : Int32) (v2 : Int32) (v3 : Int32) (m : Mem) : Option (Int32 × Mem) :=
  gd (kd v0 == 10) (gd (okA 12 (gR m v0 1) (1 : Int32)) ((if (gI m (gR m v0 1) (1 : Int32).toNatClampNeg) ≤ v3 then some ((v2, m)) else b2 (f_X10_isScored N v0 v3 v1 m) (fun r_3 m_3 => (if r_3 = 0 then rc v0 v1 (v2 + (0 : Int32)) (v3 + (1 : Int32)) m_3 else rc v0 v1 (v2 + (1 : Int32)) (v3 + (1 : Int32)) m_3)))))
def L_X10_scoresOf_4 (N : Nat) : Nat → Nat → Int32 → Int32 → Int32 → Mem → Option (Int32 × Mem)
  | 0 => fun _ _ _ _ _ => none
  | n + 1 => T_X10_scoresOf_4 N (L_X10_scoresOf_4 N n)
def f_X10_scoresOf (N : Nat) (v0 : Nat) (v1 : Int32) (m : Mem) : Option (Int32 × Mem) :=
  l2 (L_X10_scoresOf_4 N N v0 v1 (0 : Int32) (0 : Int32) m) (fun v2_6 m_6 => some (v2_6, m_6))
def T_X10_normal_4 (N : Nat) (rc : Nat → Int32 → Int32 → Int32 → Mem → Option (Nat × Int32 × Int32 × Mem)) (v0 : Nat) (v1 : Int32) (v2 : Int32) (v3 : Int32) (m : Mem) : Option (Nat × Int32 × Int32 × Mem) :=
  gd (kd v0 == 10) (gd (okA 12 (gR m v0 1) (1 : Int32)) ((if (gI m (gR m v0 1) (1 : Int32).toNatClampNeg) ≤ v3 then some ((v0, v1, v2, m)) else b2 (f_X10_isScored N v0 v3 v1 m) (fun r_3 m_3 => (if r_3 = 0 then rc v0 v1 (v2 + (0 : Int32)) (v3 + (1 : Int32)) m_3 else b2 (f_X10_adjust N v0 v3 v1 m_3) (fun r_4 m_4 => rc v0 v1 (v2 + r_4) (v3 + (1 : Int32)) m_4))))))
def L_X10_normal_4 (N : Nat) : Nat → Nat → Int32 → Int32 → Int32 → Mem → Option (Nat × Int32 × Int32 × Mem)
  | 0 => fun _ _ _ _ _ => none
  | n + 1 => T_X10_normal_4 N (L_X10_normal_4 N n)
def f_X10_normal (N : Nat) (v0 : Nat) (v1 : Int32) (m : Mem) : Option (Int32 × Mem) :=
  l4 (L_X10_normal_4 N N v0 v1 (0 : Int32) (0 : Int32) m) (fun v0_7 v1_7 v2_7 m_7 => gd (kd v0_7 == 10) (b2 (f_X10_scoresOf N v0_7 v1_7 m_7) (fun r_9 m_9 => b2 (f_X10_down N v2_7.toInt64 r_9.toInt64 m_9) (fun r_10 m_10 => some (r_10, m_10)))))
def B_X10_normalized_26 (N : Nat) (v0 : Nat) (v1 : Int32) (s0 : Int32) (s1 : Nat) (m : Mem) : Option (Int32 × Mem) :=
  gd (kd s1 == 10) (wr (sI m s1 0 s0) (fun m_5 => gd (kd v0 == 10) ((if (gI m_5 v0 0) ≤ 0 then b2 (f_X10_normal N v0 v1 m_5) (fun r_7 m_7 => some (r_7, m_7)) else some ((0 : Int32), m_5)))))
def f_X10_normalized (N : Nat) (v0 : Nat) (v1 : Int32) (m : Mem) : Option (Int32 × Mem) :=
  gd (kd v0 == 10) (b2 (f_X10_isProposal N v0 v1 m) (fun r_2 m_2 => (if r_2 = 0 then B_X10_normalized_26 N v0 v1 (1 : Int32) v0 m_2 else b2 (f_X10_scoresOf N v0 v1 m_2) (fun r_3 m_3 => (if r_3 ≤ 0 then B_X10_normalized_26 N v0 v1 (2 : Int32) v0 m_3 else B_X10_normalized_26 N v0 v1 (0 : Int32) v0 m_3)))))
def B_X10_leniency_116 (N : Nat) (rc : Nat → Int32 → Int32 → Int32 → Int32 → Int32 → Int32 → Int32 → Mem → Option (Nat × Int32 × Int32 × Int32 × Int32 × Int32 × Mem)) (v0 : Nat) (v1 : Int32) (v3 : Int32) (v4 : Int32) (v5 : Int32) (v6 : Int32) (v7 : Int32) (s0 : Int32) (s1 : Int32) (m : Mem) : Option (Nat × Int32 × Int32 × Int32 × Int32 × Int32 × Mem) :=
  gd (kd v0 == 10) (b2 (f_X10_score N v0 v5 v7 m) (fun r_12 m_12 => b2 (f_X10_isScored N v0 v5 v7 m_12) (fun r_13 m_13 => (if r_13 = 0 then rc v0 v1 (s1 + s0) (v3 + r_12) (v4 + (0 : Int32)) v5 v6 (v7 + (1 : Int32)) m_13 else rc v0 v1 (s1 + s0) (v3 + r_12) (v4 + (1 : Int32)) v5 v6 (v7 + (1 : Int32)) m_13))))
def T_X10_leniency_85 (N : Nat) (rc : Nat → Int32 → Int32 → Int32 → Int32 → Int32 → Int32 → Int32 → Mem → Option (Nat × Int32 × Int32 × Int32 × Int32 × Int32 × Mem)) (v0 : Nat) (v1 : Int32) (v2 : Int32) (v3 : Int32) (v4 : Int32) (v5 : Int32) (v6 : Int32) (v7 : Int32) (m : Mem) : Option (Nat × Int32 × Int32 × Int32 × Int32 × Int32 × Mem) :=
  (if (16 : Int32) ≤ v7 then some ((v0, v1, v2, v3, v4, v5, m)) else (if v6 = 0 then some ((v0, v1, v2, v3, v4, v5, m)) else (if v5 = v1 then gd (kd v0 == 10) (b2 (f_X10_score N v0 v5 v7 m) (fun r_16 m_16 => B_X10_leniency_116 N rc v0 v1 v3 v4 v5 v6 v7 r_16 v2 m_16)) else B_X10_leniency_116 N rc v0 v1 v3 v4 v5 v6 v7 (0 : Int32) v2 m)))
def L_X10_leniency_85 (N : Nat) : Nat → Nat → Int32 → Int32 → Int32 → Int32 → Int32 → Int32 → Int32 → Mem → Option (Nat × Int32 × Int32 × Int32 × Int32 × Int32 × Mem)
  | 0 => fun _ _ _ _ _ _ _ _ _ => none
  | n + 1 => T_X10_leniency_85 N (L_X10_leniency_85 N n)
def B_X10_leniency_80 (N : Nat) (rc : Nat → Int32 → Int32 → Int32 → Int32 → Int32 → Mem → Option (Nat × Int32 × Int32 × Int32 × Int32 × Mem)) (v0 : Nat) (v1 : Int32) (v2 : Int32) (v3 : Int32) (v4 : Int32) (v5 : Int32) (s0 : Int32) (m : Mem) : Option (Nat × Int32 × Int32 × Int32 × Int32 × Mem) :=
  l7 (L_X10_leniency_85 N N v0 v1 v2 v3 v4 v5 s0 (0 : Int32) m) (fun v0_20 v1_20 v2_20 v3_20 v4_20 v5_20 m_20 => rc v0_20 v1_20 v2_20 v3_20 v4_20 (v5_20 + (1 : Int32)) m_20)
def T_X10_leniency_48 (N : Nat) (rc : Nat → Int32 → Int32 → Int32 → Int32 → Int32 → Mem → Option (Nat × Int32 × Int32 × Int32 × Int32 × Mem)) (v0 : Nat) (v1 : Int32) (v2 : Int32) (v3 : Int32) (v4 : Int32) (v5 : Int32) (m : Mem) : Option (Nat × Int32 × Int32 × Int32 × Int32 × Mem) :=
  gd (kd v0 == 10) (gd (okA 12 (gR m v0 1) (1 : Int32)) ((if (gI m (gR m v0 1) (1 : Int32).toNatClampNeg) ≤ v5 then some ((v0, v1, v2, v3, v4, m)) else b2 (f_X10_reviewer N v0 v5 (0 : Int32) m) (fun r_9 m_9 => b2 (f_X10_reviewer N v0 v1 (0 : Int32) m_9) (fun r_10 m_10 => (if r_9 = r_10 then B_X10_leniency_80 N rc v0 v1 v2 v3 v4 v5 (1 : Int32) m_10 else B_X10_leniency_80 N rc v0 v1 v2 v3 v4 v5 (0 : Int32) m_10))))))
def L_X10_leniency_48 (N : Nat) : Nat → Nat → Int32 → Int32 → Int32 → Int32 → Int32 → Mem → Option (Nat × Int32 × Int32 × Int32 × Int32 × Mem)
  | 0 => fun _ _ _ _ _ _ _ => none
  | n + 1 => T_X10_leniency_48 N (L_X10_leniency_48 N n)
def B_X10_leniency_26 (N : Nat) (v0 : Nat) (v1 : Int32) (s0 : Int32) (s1 : Nat) (m : Mem) : Option (UInt64 × Mem) :=
  gd (kd s1 == 10) (wr (sI m s1 0 s0) (fun m_5 => gd (kd v0 == 10) ((if (gI m_5 v0 0) ≤ 0 then l6 (L_X10_leniency_48 N N v0 v1 (0 : Int32) (0 : Int32) (0 : Int32) (0 : Int32) m_5) (fun v0_23 v1_23 v2_23 v3_23 v4_23 m_23 => gd (kd v0_23 == 10) (b2 (f_X10_scoredOf N v0_23 v1_23 m_23) (fun r_25 m_25 => gd (okN (FP.ddiv (FP.i2d v2_23) (FP.i2d r_25))) (gd (okN (FP.ddiv (FP.i2d v3_23) (FP.i2d v4_23))) (gd (okN (FP.dsub (FP.ddiv (FP.i2d v2_23) (FP.i2d r_25)) (FP.ddiv (FP.i2d v3_23) (FP.i2d v4_23)))) (some (FP.dsub (FP.ddiv (FP.i2d v2_23) (FP.i2d r_25)) (FP.ddiv (FP.i2d v3_23) (FP.i2d v4_23)), m_25))))))) else some (FP.dconst0, m_5)))))
def f_X10_leniency (N : Nat) (v0 : Nat) (v1 : Int32) (m : Mem) : Option (UInt64 × Mem) :=
  gd (kd v0 == 10) (b2 (f_X10_isReviewer N v0 v1 m) (fun r_2 m_2 => (if r_2 = 0 then B_X10_leniency_26 N v0 v1 (1 : Int32) v0 m_2 else b2 (f_X10_scoredOf N v0 v1 m_2) (fun r_3 m_3 => (if r_3 ≤ 0 then B_X10_leniency_26 N v0 v1 (2 : Int32) v0 m_3 else B_X10_leniency_26 N v0 v1 (0 : Int32) v0 m_3)))))
def B_X10_disagreement_118 (N : Nat) (rc : Nat → Int32 → Int32 → Int32 → Int32 → Int32 → Mem → Option (Nat × Int32 × Int32 × Int32 × Int32 × Mem)) (v0 : Nat) (v1 : Int32) (v3 : Int32) (v4 : Int32) (v5 : Int32) (s0 : Int32) (s1 : Int32) (m : Mem) : Option (Nat × Int32 × Int32 × Int32 × Int32 × Mem) :=
  rc v0 v1 (s1 + s0) (v3 + (1 : Int32)) v4 (v5 + (1 : Int32)) m
def T_X10_disagreement_60 (N : Nat) (rc : Nat → Int32 → Int32 → Int32 → Int32 → Int32 → Mem → Option (Nat × Int32 × Int32 × Int32 × Int32 × Mem)) (v0 : Nat) (v1 : Int32) (v2 : Int32) (v3 : Int32) (v4 : Int32) (v5 : Int32) (m : Mem) : Option (Nat × Int32 × Int32 × Int32 × Int32 × Mem) :=
  (if v4 ≤ v5 then some ((v0, v1, v2, v3, v4, m)) else gd (kd v0 == 10) (b2 (f_X10_isScored N v0 v4 v1 m) (fun r_10 m_10 => (if r_10 = 0 then rc v0 v1 v2 v3 v4 (v5 + (1 : Int32)) m_10 else b2 (f_X10_isScored N v0 v5 v1 m_10) (fun r_11 m_11 => (if r_11 = 0 then rc v0 v1 v2 v3 v4 (v5 + (1 : Int32)) m_11 else b2 (f_X10_score N v0 v4 v1 m_11) (fun r_12 m_12 => b2 (f_X10_score N v0 v5 v1 m_12) (fun r_13 m_13 => (if 0 ≤ (r_12 - r_13) then B_X10_disagreement_118 N rc v0 v1 v3 v4 v5 (r_12 - r_13) v2 m_13 else B_X10_disagreement_118 N rc v0 v1 v3 v4 v5 (-(r_12 - r_13)) v2 m_13)))))))))
def L_X10_disagreement_60 (N : Nat) : Nat → Nat → Int32 → Int32 → Int32 → Int32 → Int32 → Mem → Option (Nat × Int32 × Int32 × Int32 × Int32 × Mem)
  | 0 => fun _ _ _ _ _ _ _ => none
  | n + 1 => T_X10_disagreement_60 N (L_X10_disagreement_60 N n)
def T_X10_disagreement_46 (N : Nat) (rc : Nat → Int32 → Int32 → Int32 → Int32 → Mem → Option (Int32 × Int32 × Mem)) (v0 : Nat) (v1 : Int32) (v2 : Int32) (v3 : Int32) (v4 : Int32) (m : Mem) : Option (Int32 × Int32 × Mem) :=
  gd (kd v0 == 10) (gd (okA 12 (gR m v0 1) (1 : Int32)) ((if (gI m (gR m v0 1) (1 : Int32).toNatClampNeg) ≤ v4 then some ((v2, v3, m)) else l6 (L_X10_disagreement_60 N N v0 v1 v2 v3 v4 (0 : Int32) m) (fun v0_18 v1_18 v2_18 v3_18 v4_18 m_18 => rc v0_18 v1_18 v2_18 v3_18 (v4_18 + (1 : Int32)) m_18))))
def L_X10_disagreement_46 (N : Nat) : Nat → Nat → Int32 → Int32 → Int32 → Int32 → Mem → Option (Int32 × Int32 × Mem)
  | 0 => fun _ _ _ _ _ _ => none
  | n + 1 => T_X10_disagreement_46 N (L_X10_disagreement_46 N n)
def B_X10_disagreement_27 (N : Nat) (v0 : Nat) (v1 : Int32) (s0 : Int32) (s1 : Nat) (m : Mem) : Option (UInt64 × Mem) :=
  gd (kd s1 == 10) (wr (sI m s1 0 s0) (fun m_5 => gd (kd v0 == 10) ((if (gI m_5 v0 0) ≤ 0 then l3 (L_X10_disagreement_46 N N v0 v1 (0 : Int32) (0 : Int32) (0 : Int32) m_5) (fun v2_20 v3_20 m_20 => gd (okN (FP.ddiv (FP.i2d v2_20) (FP.i2d v3_20))) (some (FP.ddiv (FP.i2d v2_20) (FP.i2d v3_20), m_20))) else some (FP.dconst0, m_5)))))
def f_X10_disagreement (N : Nat) (v0 : Nat) (v1 : Int32) (m : Mem) : Option (UInt64 × Mem) :=
  gd (kd v0 == 10) (b2 (f_X10_isProposal N v0 v1 m) (fun r_2 m_2 => (if r_2 = 0 then B_X10_disagreement_27 N v0 v1 (1 : Int32) v0 m_2 else b2 (f_X10_scoresOf N v0 v1 m_2) (fun r_3 m_3 => (if r_3 ≤ (1 : Int32) then B_X10_disagreement_27 N v0 v1 (2 : Int32) v0 m_3 else B_X10_disagreement_27 N v0 v1 (0 : Int32) v0 m_3)))))
def B_X10_leastOf_43 (N : Nat) (rc : Nat → Int32 → Int32 → Int32 → Mem → Option (Int32 × Mem)) (v0 : Nat) (v1 : Int32) (v2 : Int32) (v3 : Int32) (m : Mem) : Option (Int32 × Mem) :=
  rc v0 v1 v2 (v3 + (1 : Int32)) m
def T_X10_leastOf_5 (N : Nat) (rc : Nat → Int32 → Int32 → Int32 → Mem → Option (Int32 × Mem)) (v0 : Nat) (v1 : Int32) (v2 : Int32) (v3 : Int32) (m : Mem) : Option (Int32 × Mem) :=
  gd (kd v0 == 10) (gd (okA 12 (gR m v0 1) (1 : Int32)) ((if (gI m (gR m v0 1) (1 : Int32).toNatClampNeg) ≤ v3 then some ((v2, m)) else b2 (f_X10_isScored N v0 v3 v1 m) (fun r_3 m_3 => (if r_3 = 0 then B_X10_leastOf_43 N rc v0 v1 v2 v3 m_3 else b2 (f_X10_score N v0 v3 v1 m_3) (fun r_4 m_4 => (if v2 ≤ r_4 then B_X10_leastOf_43 N rc v0 v1 v2 v3 m_4 else b2 (f_X10_score N v0 v3 v1 m_4) (fun r_5 m_5 => rc v0 v1 r_5 (v3 + (1 : Int32)) m_5))))))))
def L_X10_leastOf_5 (N : Nat) : Nat → Nat → Int32 → Int32 → Int32 → Mem → Option (Int32 × Mem)
  | 0 => fun _ _ _ _ _ => none
  | n + 1 => T_X10_leastOf_5 N (L_X10_leastOf_5 N n)
def f_X10_leastOf (N : Nat) (v0 : Nat) (v1 : Int32) (m : Mem) : Option (Int32 × Mem) :=
  l2 (L_X10_leastOf_5 N N v0 v1 (101 : Int32) (0 : Int32) m) (fun v2_9 m_9 => some (v2_9, m_9))
def T_X10_highOf_4 (N : Nat) (rc : Nat → Int32 → Int32 → Int32 → Mem → Option (Int32 × Mem)) (v0 : Nat) (v1 : Int32) (v2 : Int32) (v3 : Int32) (m : Mem) : Option (Int32 × Mem) :=
  gd (kd v0 == 10) (gd (okA 12 (gR m v0 1) (1 : Int32)) ((if (gI m (gR m v0 1) (1 : Int32).toNatClampNeg) ≤ v3 then some ((v2, m)) else b2 (f_X10_score N v0 v3 v1 m) (fun r_3 m_3 => (if r_3 < (80 : Int32) then rc v0 v1 (v2 + (0 : Int32)) (v3 + (1 : Int32)) m_3 else rc v0 v1 (v2 + (1 : Int32)) (v3 + (1 : Int32)) m_3)))))
def L_X10_highOf_4 (N : Nat) : Nat → Nat → Int32 → Int32 → Int32 → Mem → Option (Int32 × Mem)
  | 0 => fun _ _ _ _ _ => none
  | n + 1 => T_X10_highOf_4 N (L_X10_highOf_4 N n)
def f_X10_highOf (N : Nat) (v0 : Nat) (v1 : Int32) (m : Mem) : Option (Int32 × Mem) :=
  l2 (L_X10_highOf_4 N N v0 v1 (0 : Int32) (0 : Int32) m) (fun v2_6 m_6 => some (v2_6, m_6))
def f_X10_ahead (N : Nat) (v0 : Nat) (v1 : Int32) (v2 : Int32) (v3 : Int32) (m : Mem) : Option (Int32 × Mem) :=
  (if v3 = (0 : Int32) then gd (kd v0 == 10) (b2 (f_X10_normal N v0 v1 m) (fun r_2 m_2 => b2 (f_X10_normal N v0 v2 m_2) (fun r_3 m_3 => some (r_2 - r_3, m_3)))) else if v3 = (1 : Int32) then gd (kd v0 == 10) (b2 (f_X10_leastOf N v0 v1 m) (fun r_6 m_6 => b2 (f_X10_leastOf N v0 v2 m_6) (fun r_7 m_7 => some (r_6 - r_7, m_7)))) else if v3 = (2 : Int32) then gd (kd v0 == 10) (b2 (f_X10_highOf N v0 v1 m) (fun r_10 m_10 => b2 (f_X10_highOf N v0 v2 m_10) (fun r_11 m_11 => some (r_10 - r_11, m_11)))) else if v3 = (3 : Int32) then gd (kd v0 == 10) (b2 (f_X10_proposal N v0 v2 (3 : Int32) m) (fun r_14 m_14 => b2 (f_X10_proposal N v0 v1 (3 : Int32) m_14) (fun r_15 m_15 => some (r_14 - r_15, m_15)))) else some (v2 - v1, m))
def T_X10_roundOf_2 (N : Nat) (rc : Nat → Int32 → Int32 → Int32 → Mem → Option (Int32 × Mem)) (v0 : Nat) (v1 : Int32) (v2 : Int32) (v3 : Int32) (m : Mem) : Option (Int32 × Mem) :=
  gd (kd v0 == 10) (b2 (f_X10_ahead N v0 v1 v2 v3 m) (fun r_2 m_2 => (if r_2 = 0 then rc v0 v1 v2 (v3 + (1 : Int32)) m_2 else some ((v3, m_2)))))
def L_X10_roundOf_2 (N : Nat) : Nat → Nat → Int32 → Int32 → Int32 → Mem → Option (Int32 × Mem)
  | 0 => fun _ _ _ _ _ => none
  | n + 1 => T_X10_roundOf_2 N (L_X10_roundOf_2 N n)
def f_X10_roundOf (N : Nat) (v0 : Nat) (v1 : Int32) (v2 : Int32) (m : Mem) : Option (Int32 × Mem) :=
  l2 (L_X10_roundOf_2 N N v0 v1 v2 (0 : Int32) m) (fun v3_4 m_4 => some (v3_4, m_4))
def f_X10_isRanked (N : Nat) (v0 : Nat) (v1 : Int32) (m : Mem) : Option (Int32 × Mem) :=
  gd (kd v0 == 10) (b2 (f_X10_scoresOf N v0 v1 m) (fun r_2 m_2 => (if r_2 ≤ 0 then gd (isB (0 : Int32)) (some ((0 : Int32), m_2)) else gd (isB (1 : Int32)) (some ((1 : Int32), m_2)))))
def B_X10_rankIn_81 (N : Nat) (rc : Nat → Int32 → Int32 → Int32 → Int32 → Mem → Option (Int32 × Mem)) (v0 : Nat) (v1 : Int32) (v2 : Int32) (v4 : Int32) (s0 : Int32) (m : Mem) : Option (Int32 × Mem) :=
  rc v0 v1 v2 (s0 + (0 : Int32)) (v4 + (1 : Int32)) m
def B_X10_rankIn_52 (N : Nat) (rc : Nat → Int32 → Int32 → Int32 → Int32 → Mem → Option (Int32 × Mem)) (v0 : Nat) (v1 : Int32) (v2 : Int32) (v3 : Int32) (v4 : Int32) (s0 : Int32) (m : Mem) : Option (Int32 × Mem) :=
  (if s0 = 0 then B_X10_rankIn_81 N rc v0 v1 v2 v4 v3 m else gd (kd v0 == 10) (b2 (f_X10_roundOf N v0 v4 v2 m) (fun r_4 m_4 => b2 (f_X10_ahead N v0 v4 v2 r_4 m_4) (fun r_5 m_5 => (if r_5 ≤ 0 then B_X10_rankIn_81 N rc v0 v1 v2 v4 v3 m_5 else rc v0 v1 v2 (v3 + (1 : Int32)) (v4 + (1 : Int32)) m_5)))))
def B_X10_rankIn_51 (N : Nat) (rc : Nat → Int32 → Int32 → Int32 → Int32 → Mem → Option (Int32 × Mem)) (v0 : Nat) (v1 : Int32) (v2 : Int32) (v3 : Int32) (v4 : Int32) (m : Mem) : Option (Int32 × Mem) :=
  B_X10_rankIn_52 N rc v0 v1 v2 v3 v4 (0 : Int32) m
def B_X10_rankIn_47 (N : Nat) (rc : Nat → Int32 → Int32 → Int32 → Int32 → Mem → Option (Int32 × Mem)) (v0 : Nat) (v1 : Int32) (v2 : Int32) (v3 : Int32) (v4 : Int32) (m : Mem) : Option (Int32 × Mem) :=
  B_X10_rankIn_52 N rc v0 v1 v2 v3 v4 (1 : Int32) m
def T_X10_rankIn_5 (N : Nat) (rc : Nat → Int32 → Int32 → Int32 → Int32 → Mem → Option (Int32 × Mem)) (v0 : Nat) (v1 : Int32) (v2 : Int32) (v3 : Int32) (v4 : Int32) (m : Mem) : Option (Int32 × Mem) :=
  gd (kd v0 == 10) (gd (okA 12 (gR m v0 1) (2 : Int32)) ((if (gI m (gR m v0 1) (2 : Int32).toNatClampNeg) ≤ v4 then some ((v3, m)) else (if v4 = v2 then B_X10_rankIn_51 N rc v0 v1 v2 v3 v4 m else b2 (f_X10_isRanked N v0 v4 m) (fun r_8 m_8 => (if r_8 = 0 then B_X10_rankIn_51 N rc v0 v1 v2 v3 v4 m_8 else (if v1 = (-1 : Int32) then B_X10_rankIn_47 N rc v0 v1 v2 v3 v4 m_8 else b2 (f_X10_proposal N v0 v4 (0 : Int32) m_8) (fun r_9 m_9 => (if r_9 = v1 then B_X10_rankIn_47 N rc v0 v1 v2 v3 v4 m_9 else B_X10_rankIn_51 N rc v0 v1 v2 v3 v4 m_9)))))))))
def L_X10_rankIn_5 (N : Nat) : Nat → Nat → Int32 → Int32 → Int32 → Int32 → Mem → Option (Int32 × Mem)
  | 0 => fun _ _ _ _ _ _ => none
  | n + 1 => T_X10_rankIn_5 N (L_X10_rankIn_5 N n)
def f_X10_rankIn (N : Nat) (v0 : Nat) (v1 : Int32) (v2 : Int32) (m : Mem) : Option (Int32 × Mem) :=
  l2 (L_X10_rankIn_5 N N v0 v1 v2 (0 : Int32) (0 : Int32) m) (fun v3_15 m_15 => some (v3_15, m_15))
def B_X10_rank_26 (N : Nat) (v0 : Nat) (v1 : Int32) (s0 : Int32) (s1 : Nat) (m : Mem) : Option (Int32 × Mem) :=
  gd (kd s1 == 10) (wr (sI m s1 0 s0) (fun m_5 => gd (kd v0 == 10) ((if (gI m_5 v0 0) ≤ 0 then b2 (f_X10_proposal N v0 v1 (0 : Int32) m_5) (fun r_7 m_7 => b2 (f_X10_rankIn N v0 r_7 v1 m_7) (fun r_8 m_8 => some (r_8, m_8))) else some ((0 : Int32), m_5)))))
def f_X10_rank (N : Nat) (v0 : Nat) (v1 : Int32) (m : Mem) : Option (Int32 × Mem) :=
  gd (kd v0 == 10) (b2 (f_X10_isProposal N v0 v1 m) (fun r_2 m_2 => (if r_2 = 0 then B_X10_rank_26 N v0 v1 (1 : Int32) v0 m_2 else b2 (f_X10_isRanked N v0 v1 m_2) (fun r_3 m_3 => (if r_3 = 0 then B_X10_rank_26 N v0 v1 (2 : Int32) v0 m_3 else B_X10_rank_26 N v0 v1 (0 : Int32) v0 m_3)))))
def B_X10_rankedIn_40 (N : Nat) (rc : Nat → Int32 → Int32 → Int32 → Mem → Option ((Mem) ⊕ (Int32 × Mem))) (v0 : Nat) (v1 : Int32) (v2 : Int32) (v3 : Int32) (s0 : Int32) (m : Mem) : Option ((Mem) ⊕ (Int32 × Mem)) :=
  (if s0 = 0 then rc v0 v1 v2 (v3 + (1 : Int32)) m else gd (kd v0 == 10) (b2 (f_X10_rankIn N v0 v1 v3 m) (fun r_5 m_5 => (if r_5 = v2 then some (.inr ((v3, m_5))) else rc v0 v1 v2 (v3 + (1 : Int32)) m_5))))
def B_X10_rankedIn_39 (N : Nat) (rc : Nat → Int32 → Int32 → Int32 → Mem → Option ((Mem) ⊕ (Int32 × Mem))) (v0 : Nat) (v1 : Int32) (v2 : Int32) (v3 : Int32) (m : Mem) : Option ((Mem) ⊕ (Int32 × Mem)) :=
  B_X10_rankedIn_40 N rc v0 v1 v2 v3 (0 : Int32) m
def B_X10_rankedIn_35 (N : Nat) (rc : Nat → Int32 → Int32 → Int32 → Mem → Option ((Mem) ⊕ (Int32 × Mem))) (v0 : Nat) (v1 : Int32) (v2 : Int32) (v3 : Int32) (m : Mem) : Option ((Mem) ⊕ (Int32 × Mem)) :=
  B_X10_rankedIn_40 N rc v0 v1 v2 v3 (1 : Int32) m
def T_X10_rankedIn_2 (N : Nat) (rc : Nat → Int32 → Int32 → Int32 → Mem → Option ((Mem) ⊕ (Int32 × Mem))) (v0 : Nat) (v1 : Int32) (v2 : Int32) (v3 : Int32) (m : Mem) : Option ((Mem) ⊕ (Int32 × Mem)) :=
  gd (kd v0 == 10) (gd (okA 12 (gR m v0 1) (2 : Int32)) ((if (gI m (gR m v0 1) (2 : Int32).toNatClampNeg) ≤ v3 then some (.inl (m)) else b2 (f_X10_isRanked N v0 v3 m) (fun r_3 m_3 => (if r_3 = 0 then B_X10_rankedIn_39 N rc v0 v1 v2 v3 m_3 else (if v1 = (-1 : Int32) then B_X10_rankedIn_35 N rc v0 v1 v2 v3 m_3 else b2 (f_X10_proposal N v0 v3 (0 : Int32) m_3) (fun r_8 m_8 => (if r_8 = v1 then B_X10_rankedIn_35 N rc v0 v1 v2 v3 m_8 else B_X10_rankedIn_39 N rc v0 v1 v2 v3 m_8))))))))
def L_X10_rankedIn_2 (N : Nat) : Nat → Nat → Int32 → Int32 → Int32 → Mem → Option ((Mem) ⊕ (Int32 × Mem))
  | 0 => fun _ _ _ _ _ => none
  | n + 1 => T_X10_rankedIn_2 N (L_X10_rankedIn_2 N n)
def f_X10_rankedIn (N : Nat) (v0 : Nat) (v1 : Int32) (v2 : Int32) (m : Mem) : Option (Int32 × Mem) :=
  (L_X10_rankedIn_2 N N v0 v1 v2 (0 : Int32) m).bind (fun x9 => match x9 with | .inl (m_13) => some ((-1 : Int32), m_13) | .inr ((v3_13, m_13)) => some (v3_13, m_13))
def B_X10_ranked_39 (N : Nat) (v0 : Nat) (s0 : Int32) (m : Mem) : Option (Int32 × Mem) :=
  (if s0 = (-1 : Int32) then gd (kd v0 == 10) (b2 (f_X10_fails N v0 (1 : Int32) m) (fun r_6 m_6 => some (r_6, m_6))) else some (s0, m))
def B_X10_ranked_19 (N : Nat) (v0 : Nat) (v1 : Int32) (v2 : Int32) (s0 : Int32) (s1 : Nat) (m : Mem) : Option (Int32 × Mem) :=
  gd (kd s1 == 10) (wr (sI m s1 0 s0) (fun m_2 => gd (kd v0 == 10) ((if (gI m_2 v0 0) ≤ 0 then b2 (f_X10_rankedIn N v0 v1 v2 m_2) (fun r_4 m_4 => B_X10_ranked_39 N v0 r_4 m_4) else B_X10_ranked_39 N v0 (0 : Int32) m_2))))
def B_X10_ranked_18 (N : Nat) (v0 : Nat) (v1 : Int32) (v2 : Int32) (s0 : Nat) (m : Mem) : Option (Int32 × Mem) :=
  B_X10_ranked_19 N v0 v1 v2 (0 : Int32) s0 m
def f_X10_ranked (N : Nat) (v0 : Nat) (v1 : Int32) (v2 : Int32) (m : Mem) : Option (Int32 × Mem) :=
  (if v1 = (-1 : Int32) then B_X10_ranked_18 N v0 v1 v2 v0 m else gd (kd v0 == 10) (b2 (f_X10_isPanel N v0 v1 m) (fun r_10 m_10 => (if r_10 = 0 then B_X10_ranked_19 N v0 v1 v2 (1 : Int32) v0 m_10 else B_X10_ranked_18 N v0 v1 v2 v0 m_10))))
def B_X10_tieRound_51 (N : Nat) (v0 : Nat) (v1 : Int32) (v2 : Int32) (s0 : Int32) (s1 : Nat) (m : Mem) : Option (Int32 × Mem) :=
  gd (kd s1 == 10) (wr (sI m s1 0 s0) (fun m_4 => gd (kd v0 == 10) ((if (gI m_4 v0 0) ≤ 0 then b2 (f_X10_roundOf N v0 v1 v2 m_4) (fun r_6 m_6 => some (r_6, m_6)) else some ((0 : Int32), m_4)))))
def B_X10_tieRound_17 (N : Nat) (v0 : Nat) (v1 : Int32) (v2 : Int32) (s0 : Nat) (m : Mem) : Option (Int32 × Mem) :=
  B_X10_tieRound_51 N v0 v1 v2 (1 : Int32) s0 m
def B_X10_tieRound_50 (N : Nat) (v0 : Nat) (v1 : Int32) (v2 : Int32) (s0 : Nat) (m : Mem) : Option (Int32 × Mem) :=
  B_X10_tieRound_51 N v0 v1 v2 (3 : Int32) s0 m
def f_X10_tieRound (N : Nat) (v0 : Nat) (v1 : Int32) (v2 : Int32) (m : Mem) : Option (Int32 × Mem) :=
  gd (kd v0 == 10) (b2 (f_X10_isProposal N v0 v1 m) (fun r_2 m_2 => (if r_2 = 0 then B_X10_tieRound_17 N v0 v1 v2 v0 m_2 else b2 (f_X10_isProposal N v0 v2 m_2) (fun r_8 m_8 => (if r_8 = 0 then B_X10_tieRound_17 N v0 v1 v2 v0 m_8 else (if v1 = v2 then B_X10_tieRound_51 N v0 v1 v2 (2 : Int32) v0 m_8 else b2 (f_X10_isRanked N v0 v1 m_8) (fun r_9 m_9 => (if r_9 = 0 then B_X10_tieRound_50 N v0 v1 v2 v0 m_9 else b2 (f_X10_isRanked N v0 v2 m_9) (fun r_10 m_10 => (if r_10 = 0 then B_X10_tieRound_50 N v0 v1 v2 v0 m_10 else B_X10_tieRound_51 N v0 v1 v2 (0 : Int32) v0 m_10))))))))))
def B_X10_laysOrder_58 (N : Nat) (rc : Nat → Int32 → Mem → Option (Nat × Mem)) (v0 : Nat) (v1 : Int32) (s0 : Int32) (s1 : Int32) (s2 : Nat) (m : Mem) : Option (Nat × Mem) :=
  gd (kd s2 == 10) (wr (sI m s2 19 (s1 + s0)) (fun m_11 => rc v0 (v1 + (1 : Int32)) m_11))
def B_X10_laysOrder_39 (N : Nat) (rc : Nat → Int32 → Mem → Option (Nat × Mem)) (v0 : Nat) (v1 : Int32) (s0 : Int32) (s1 : Int32) (s2 : Nat) (m : Mem) : Option (Nat × Mem) :=
  gd (okA 12 s2 s1) (wr (sI m s2 s1.toNatClampNeg s0) (fun m_7 => gd (kd v0 == 10) (b2 (f_X10_isRanked N v0 v1 m_7) (fun r_9 m_9 => (if r_9 = 0 then B_X10_laysOrder_58 N rc v0 v1 (0 : Int32) (gI m_7 v0 19) v0 m_9 else B_X10_laysOrder_58 N rc v0 v1 (1 : Int32) (gI m_7 v0 19) v0 m_9)))))
def T_X10_laysOrder_7 (N : Nat) (rc : Nat → Int32 → Mem → Option (Nat × Mem)) (v0 : Nat) (v1 : Int32) (m : Mem) : Option (Nat × Mem) :=
  gd (kd v0 == 10) (gd (okA 12 (gR m v0 1) (2 : Int32)) ((if (gI m (gR m v0 1) (2 : Int32).toNatClampNeg) ≤ v1 then some ((v0, m)) else b2 (f_X10_isRanked N v0 v1 m) (fun r_5 m_5 => (if r_5 = 0 then B_X10_laysOrder_39 N rc v0 v1 (0 : Int32) v1 (gR m v0 18) m_5 else b2 (f_X10_normal N v0 v1 m_5) (fun r_13 m_13 => B_X10_laysOrder_39 N rc v0 v1 r_13 v1 (gR m v0 18) m_13))))))
def L_X10_laysOrder_7 (N : Nat) : Nat → Nat → Int32 → Mem → Option (Nat × Mem)
  | 0 => fun _ _ _ => none
  | n + 1 => T_X10_laysOrder_7 N (L_X10_laysOrder_7 N n)
def T_X10_laysOrder_70 (N : Nat) (rc : Nat → Int32 → Mem → Option (Mem)) (v0 : Nat) (v1 : Int32) (m : Mem) : Option (Mem) :=
  gd (kd v0 == 10) (gd (okA 12 (gR m v0 1) (2 : Int32)) ((if (gI m (gR m v0 1) (2 : Int32).toNatClampNeg) ≤ v1 then some (m) else b2 (f_X10_isRanked N v0 v1 m) (fun r_19 m_19 => (if r_19 = 0 then rc v0 (v1 + (1 : Int32)) m_19 else b2 (f_X10_rankIn N v0 (-1 : Int32) v1 m_19) (fun r_20 m_20 => gd (okA 12 (gR m_19 v0 17) r_20) (wr (sI m_20 (gR m_19 v0 17) r_20.toNatClampNeg v1) (fun m_22 => rc v0 (v1 + (1 : Int32)) m_22))))))))
def L_X10_laysOrder_70 (N : Nat) : Nat → Nat → Int32 → Mem → Option (Mem)
  | 0 => fun _ _ _ => none
  | n + 1 => T_X10_laysOrder_70 N (L_X10_laysOrder_70 N n)
def f_X10_laysOrder (N : Nat) (v0 : Nat) (m : Mem) : Option (Mem) :=
  gd (kd v0 == 10) (wr (sI m v0 19 (0 : Int32)) (fun m_2 => l2 (L_X10_laysOrder_7 N N v0 (0 : Int32) m_2) (fun v0_16 m_16 => l1 (L_X10_laysOrder_70 N N v0_16 (0 : Int32) m_16) (fun  m_25 => some (m_25)))))
def B_X10_funds_173 (N : Nat) (rc : Nat → Int32 → Int32 → Int32 → Int32 → Int32 → Int32 → Mem → Option (Nat × Int32 × Int32 × Mem)) (v0 : Nat) (v1 : Int32) (v2 : Int32) (v3 : Int32) (v4 : Int32) (v6 : Int32) (s0 : Int32) (m : Mem) : Option (Nat × Int32 × Int32 × Mem) :=
  rc v0 v1 v2 v3 v4 s0 (v6 + (1 : Int32)) m
def B_X10_funds_172 (N : Nat) (rc : Nat → Int32 → Int32 → Int32 → Int32 → Int32 → Int32 → Mem → Option (Nat × Int32 × Int32 × Mem)) (v0 : Nat) (v1 : Int32) (v2 : Int32) (v3 : Int32) (v4 : Int32) (v6 : Int32) (m : Mem) : Option (Nat × Int32 × Int32 × Mem) :=
  B_X10_funds_173 N rc v0 v1 v2 v3 v4 v6 (0 : Int32) m
def B_X10_funds_145 (N : Nat) (rc : Nat → Int32 → Int32 → Int32 → Int32 → Int32 → Int32 → Mem → Option (Nat × Int32 × Int32 × Mem)) (v0 : Nat) (v1 : Int32) (v2 : Int32) (v3 : Int32) (v4 : Int32) (v6 : Int32) (v7 : Int32) (v8 : Int32) (s0 : Int32) (s1 : Int32) (s2 : Nat) (m : Mem) : Option (Nat × Int32 × Int32 × Mem) :=
  gd (okA 12 s2 s1) (wr (sI m s2 s1.toNatClampNeg s0) (fun m_10 => gd (kd v0 == 10) (gd (okA 12 (gR m_10 v0 20) v7) ((if v8 = 0 then (if v1 = (1 : Int32) then B_X10_funds_172 N rc v0 v1 v2 v3 (v4 - (gI m_10 (gR m_10 v0 20) v7.toNatClampNeg)) v6 m_10 else B_X10_funds_173 N rc v0 v1 v2 v3 (v4 - (gI m_10 (gR m_10 v0 20) v7.toNatClampNeg)) v6 (1 : Int32) m_10) else B_X10_funds_172 N rc v0 v1 v2 v3 (v4 - (gI m_10 (gR m_10 v0 20) v7.toNatClampNeg)) v6 m_10)))))
def B_X10_funds_111 (N : Nat) (rc : Nat → Int32 → Int32 → Int32 → Int32 → Int32 → Int32 → Mem → Option (Nat × Int32 × Int32 × Mem)) (v0 : Nat) (v1 : Int32) (v2 : Int32) (v3 : Int32) (v4 : Int32) (v6 : Int32) (v7 : Int32) (v8 : Int32) (s0 : Int32) (m : Mem) : Option (Nat × Int32 × Int32 × Mem) :=
  gd (kd v0 == 10) ((if v8 = 0 then (if s0 = 0 then B_X10_funds_145 N rc v0 v1 v2 v3 v4 v6 v7 v8 (0 : Int32) v7 (gR m v0 20) m else B_X10_funds_145 N rc v0 v1 v2 v3 v4 v6 v7 v8 v4 v7 (gR m v0 20) m) else b2 (f_X10_proposal N v0 v7 (3 : Int32) m) (fun r_16 m_16 => B_X10_funds_145 N rc v0 v1 v2 v3 v4 v6 v7 v8 r_16 v7 (gR m v0 20) m_16)))
def B_X10_funds_110 (N : Nat) (rc : Nat → Int32 → Int32 → Int32 → Int32 → Int32 → Int32 → Mem → Option (Nat × Int32 × Int32 × Mem)) (v0 : Nat) (v1 : Int32) (v2 : Int32) (v3 : Int32) (v4 : Int32) (v6 : Int32) (v7 : Int32) (v8 : Int32) (m : Mem) : Option (Nat × Int32 × Int32 × Mem) :=
  B_X10_funds_111 N rc v0 v1 v2 v3 v4 v6 v7 v8 (0 : Int32) m
def B_X10_funds_82 (N : Nat) (rc : Nat → Int32 → Int32 → Int32 → Int32 → Int32 → Int32 → Mem → Option (Nat × Int32 × Int32 × Mem)) (v0 : Nat) (v1 : Int32) (v2 : Int32) (v3 : Int32) (v4 : Int32) (v6 : Int32) (v7 : Int32) (s0 : Int32) (m : Mem) : Option (Nat × Int32 × Int32 × Mem) :=
  (if s0 = 0 then (if v1 = (2 : Int32) then gd (kd v0 == 10) (b2 (f_X10_proposal N v0 v7 (4 : Int32) m) (fun r_19 m_19 => (if v4 < r_19 then B_X10_funds_110 N rc v0 v1 v2 v3 v4 v6 v7 s0 m_19 else B_X10_funds_111 N rc v0 v1 v2 v3 v4 v6 v7 s0 (1 : Int32) m_19))) else B_X10_funds_110 N rc v0 v1 v2 v3 v4 v6 v7 s0 m) else B_X10_funds_110 N rc v0 v1 v2 v3 v4 v6 v7 s0 m)
def T_X10_funds_17 (N : Nat) (rc : Nat → Int32 → Int32 → Int32 → Int32 → Int32 → Int32 → Mem → Option (Nat × Int32 × Int32 × Mem)) (v0 : Nat) (v1 : Int32) (v2 : Int32) (v3 : Int32) (v4 : Int32) (v5 : Int32) (v6 : Int32) (m : Mem) : Option (Nat × Int32 × Int32 × Mem) :=
  gd (kd v0 == 10) ((if (gI m v0 19) ≤ v6 then some ((v0, v2, v4, m)) else (if v5 = 0 then gd (okA 12 (gR m v0 17) v6) (b2 (f_X10_proposal N v0 (gI m (gR m v0 17) v6.toNatClampNeg) (0 : Int32) m) (fun r_5 m_5 => (if r_5 = v2 then gd (okA 12 (gR m_5 v0 18) (gI m (gR m v0 17) v6.toNatClampNeg)) ((if v3 ≤ (gI m_5 (gR m_5 v0 18) (gI m (gR m v0 17) v6.toNatClampNeg).toNatClampNeg) then b2 (f_X10_proposal N v0 (gI m (gR m v0 17) v6.toNatClampNeg) (3 : Int32) m_5) (fun r_7 m_7 => (if v4 < r_7 then B_X10_funds_82 N rc v0 v1 v2 v3 v4 v6 (gI m (gR m v0 17) v6.toNatClampNeg) (0 : Int32) m_7 else B_X10_funds_82 N rc v0 v1 v2 v3 v4 v6 (gI m (gR m v0 17) v6.toNatClampNeg) (1 : Int32) m_7)) else rc v0 v1 v2 v3 v4 v5 (v6 + (1 : Int32)) m_5)) else rc v0 v1 v2 v3 v4 v5 (v6 + (1 : Int32)) m_5))) else some ((v0, v2, v4, m)))))
def L_X10_funds_17 (N : Nat) : Nat → Nat → Int32 → Int32 → Int32 → Int32 → Int32 → Int32 → Mem → Option (Nat × Int32 × Int32 × Mem)
  | 0 => fun _ _ _ _ _ _ _ _ => none
  | n + 1 => T_X10_funds_17 N (L_X10_funds_17 N n)
def B_X10_funds_181 (N : Nat) (v0 : Nat) (v2 : Int32) (v4 : Int32) (m : Mem) : Option (Mem) :=
  gd (kd v0 == 10) (gd (okA 12 (gR m v0 21) v2) (wr (sI m (gR m v0 21) v2.toNatClampNeg v4) (fun m_31 => some (m_31))))
def f_X10_funds (N : Nat) (v0 : Nat) (v1 : Int32) (v2 : Int32) (v3 : Int32) (m : Mem) : Option (Mem) :=
  gd (kd v0 == 10) (gd (okA 12 (gR m v0 1) ((7 : Int32) + v2)) (l4 (L_X10_funds_17 N N v0 v1 v2 v3 (gI m (gR m v0 1) ((7 : Int32) + v2).toNatClampNeg) (0 : Int32) (0 : Int32) m) (fun v0_28 v2_28 v4_28 m_28 => B_X10_funds_181 N v0_28 v2_28 v4_28 m_28)))
def T_X10_fundsAll_2 (N : Nat) (rc : Nat → Int32 → Int32 → Int32 → Mem → Option (Nat × Int32 × Int32 × Mem)) (v0 : Nat) (v1 : Int32) (v2 : Int32) (v3 : Int32) (m : Mem) : Option (Nat × Int32 × Int32 × Mem) :=
  (if (16 : Int32) ≤ v3 then some ((v0, v1, v2, m)) else gd (kd v0 == 10) (gd (okA 12 (gR m v0 20) v3) (wr (sI m (gR m v0 20) v3.toNatClampNeg (0 : Int32)) (fun m_3 => rc v0 v1 v2 (v3 + (1 : Int32)) m_3))))
def L_X10_fundsAll_2 (N : Nat) : Nat → Nat → Int32 → Int32 → Int32 → Mem → Option (Nat × Int32 × Int32 × Mem)
  | 0 => fun _ _ _ _ _ => none
  | n + 1 => T_X10_fundsAll_2 N (L_X10_fundsAll_2 N n)
def T_X10_fundsAll_33 (N : Nat) (rc : Nat → Int32 → Int32 → Int32 → Mem → Option (Nat × Int32 × Mem)) (v0 : Nat) (v1 : Int32) (v2 : Int32) (v3 : Int32) (m : Mem) : Option (Nat × Int32 × Mem) :=
  gd (kd v0 == 10) (gd (okA 12 (gR m v0 1) (0 : Int32)) ((if (gI m (gR m v0 1) (0 : Int32).toNatClampNeg) ≤ v3 then some ((v0, v2, m)) else b1 (f_X10_funds N v0 v1 v3 v2 m) (fun m_11 => gd (okA 12 (gR m_11 v0 21) v3) (wr (sI m_11 v0 22 ((gI m_11 v0 22) + (gI m_11 (gR m_11 v0 21) v3.toNatClampNeg))) (fun m_13 => rc v0 v1 v2 (v3 + (1 : Int32)) m_13))))))
def L_X10_fundsAll_33 (N : Nat) : Nat → Nat → Int32 → Int32 → Int32 → Mem → Option (Nat × Int32 × Mem)
  | 0 => fun _ _ _ _ _ => none
  | n + 1 => T_X10_fundsAll_33 N (L_X10_fundsAll_33 N n)
def T_X10_fundsAll_73 (N : Nat) (rc : Nat → Int32 → Int32 → Mem → Option (Mem)) (v0 : Nat) (v2 : Int32) (v3 : Int32) (m : Mem) : Option (Mem) :=
  gd (kd v0 == 10) ((if (gI m v0 19) ≤ v3 then some (m) else gd (okA 12 (gR m v0 17) v3) (gd (okA 12 (gR m v0 20) (gI m (gR m v0 17) v3.toNatClampNeg)) ((if (gI m (gR m v0 20) (gI m (gR m v0 17) v3.toNatClampNeg).toNatClampNeg) = 0 then gd (okA 12 (gR m v0 18) (gI m (gR m v0 17) v3.toNatClampNeg)) ((if (gI m (gR m v0 18) (gI m (gR m v0 17) v3.toNatClampNeg).toNatClampNeg) < v2 then rc v0 v2 (v3 + (1 : Int32)) m else b2 (f_X10_proposal N v0 (gI m (gR m v0 17) v3.toNatClampNeg) (3 : Int32) m) (fun r_20 m_20 => (if (gI m_20 v0 22) < r_20 then rc v0 v2 (v3 + (1 : Int32)) m_20 else b2 (f_X10_proposal N v0 (gI m (gR m v0 17) v3.toNatClampNeg) (3 : Int32) m_20) (fun r_21 m_21 => gd (okA 12 (gR m_20 v0 20) (gI m (gR m v0 17) v3.toNatClampNeg)) (wr (sI m_21 (gR m_20 v0 20) (gI m (gR m v0 17) v3.toNatClampNeg).toNatClampNeg r_21) (fun m_23 => gd (okA 12 (gR m_23 v0 20) (gI m (gR m v0 17) v3.toNatClampNeg)) (wr (sI m_23 v0 22 ((gI m_23 v0 22) - (gI m_23 (gR m_23 v0 20) (gI m (gR m v0 17) v3.toNatClampNeg).toNatClampNeg))) (fun m_25 => rc v0 v2 (v3 + (1 : Int32)) m_25))))))))) else rc v0 v2 (v3 + (1 : Int32)) m)))))
def L_X10_fundsAll_73 (N : Nat) : Nat → Nat → Int32 → Int32 → Mem → Option (Mem)
  | 0 => fun _ _ _ _ => none
  | n + 1 => T_X10_fundsAll_73 N (L_X10_fundsAll_73 N n)
def f_X10_fundsAll (N : Nat) (v0 : Nat) (v1 : Int32) (v2 : Int32) (m : Mem) : Option (Mem) :=
  l4 (L_X10_fundsAll_2 N N v0 v1 v2 (0 : Int32) m) (fun v0_5 v1_5 v2_5 m_5 => gd (kd v0_5 == 10) (gd (okA 12 (gR m_5 v0_5 1) (5 : Int32)) (wr (sI m_5 v0_5 22 (gI m_5 (gR m_5 v0_5 1) (5 : Int32).toNatClampNeg)) (fun m_8 => l3 (L_X10_fundsAll_33 N N v0_5 v1_5 v2_5 (0 : Int32) m_8) (fun v0_15 v2_15 m_15 => l1 (L_X10_fundsAll_73 N N v0_15 v2_15 (0 : Int32) m_15) (fun  m_30 => some (m_30)))))))
def T_X10_fundedNow_4 (N : Nat) (rc : Nat → Int32 → Int32 → Mem → Option (Int32 × Mem)) (v0 : Nat) (v1 : Int32) (v2 : Int32) (m : Mem) : Option (Int32 × Mem) :=
  (if (16 : Int32) ≤ v2 then some ((v1, m)) else gd (kd v0 == 10) (gd (okA 12 (gR m v0 20) v2) ((if (gI m (gR m v0 20) v2.toNatClampNeg) ≤ 0 then rc v0 (v1 ||| (0 : Int32)) (v2 + (1 : Int32)) m else rc v0 (v1 ||| ((1 : Int32) <<< (v2 &&& 31))) (v2 + (1 : Int32)) m))))
def L_X10_fundedNow_4 (N : Nat) : Nat → Nat → Int32 → Int32 → Mem → Option (Int32 × Mem)
  | 0 => fun _ _ _ _ => none
  | n + 1 => T_X10_fundedNow_4 N (L_X10_fundedNow_4 N n)
def f_X10_fundedNow (N : Nat) (v0 : Nat) (m : Mem) : Option (Int32 × Mem) :=
  l2 (L_X10_fundedNow_4 N N v0 (0 : Int32) (0 : Int32) m) (fun v1_5 m_5 => some (v1_5, m_5))
def B_X10_isMode_15 (N : Nat) (v0 : Nat) (s0 : Int32) (s1 : Nat) (m : Mem) : Option (Int32 × Mem) :=
  gd (kd s1 == 10) (wr (sI m s1 0 s0) (fun m_3 => gd (kd v0 == 10) ((if (gI m_3 v0 0) = 0 then gd (isB (1 : Int32)) (some ((1 : Int32), m_3)) else gd (isB (0 : Int32)) (some ((0 : Int32), m_3))))))
def f_X10_isMode (N : Nat) (v0 : Nat) (v1 : Int32) (m : Mem) : Option (Int32 × Mem) :=
  b2 (f_X10_in N v1 (0 : Int32) (2 : Int32) m) (fun r_1 m_1 => (if r_1 = 0 then B_X10_isMode_15 N v0 (1 : Int32) v0 m_1 else B_X10_isMode_15 N v0 (0 : Int32) v0 m_1))
def f_X10_pays (N : Nat) (v0 : Nat) (v1 : Int32) (m : Mem) : Option (Mem) :=
  gd (kd v0 == 10) (b1 (f_X10_laysOrder N v0 m) (fun m_2 => gd (okA 12 (gR m_2 v0 3) (0 : Int32)) (b1 (f_X10_fundsAll N v0 v1 (gI m_2 (gR m_2 v0 3) (0 : Int32).toNatClampNeg) m_2) (fun m_4 => some (m_4)))))
def B_X10_setLine_16 (N : Nat) (v0 : Nat) (v1 : Int32) (s0 : Int32) (s1 : Nat) (m : Mem) : Option (Int32 × Mem) :=
  gd (kd s1 == 10) (wr (sI m s1 0 s0) (fun m_3 => gd (kd v0 == 10) ((if (gI m_3 v0 0) ≤ 0 then b1 (f_X10_keeps N v0 m_3) (fun m_5 => gd (okA 12 (gR m_5 v0 3) (0 : Int32)) (wr (sI m_5 (gR m_5 v0 3) (0 : Int32).toNatClampNeg v1) (fun m_7 => some (gI m_5 (gR m_5 v0 3) (0 : Int32).toNatClampNeg, m_7)))) else some ((0 : Int32), m_3)))))
def f_X10_setLine (N : Nat) (v0 : Nat) (v1 : Int32) (m : Mem) : Option (Int32 × Mem) :=
  b2 (f_X10_in N v1 (0 : Int32) (100000 : Int32) m) (fun r_1 m_1 => (if r_1 = 0 then B_X10_setLine_16 N v0 v1 (1 : Int32) v0 m_1 else B_X10_setLine_16 N v0 v1 (0 : Int32) v0 m_1))
def f_X10_amount (N : Nat) (v0 : Nat) (v1 : Int32) (v2 : Int32) (m : Mem) : Option (Int32 × Mem) :=
  gd (kd v0 == 10) (b2 (f_X10_isMode N v0 v1 m) (fun r_2 m_2 => (if r_2 = 0 then some ((0 : Int32), m_2) else b2 (f_X10_isProposal N v0 v2 m_2) (fun r_3 m_3 => (if r_3 = 0 then b2 (f_X10_fails N v0 (2 : Int32) m_3) (fun r_6 m_6 => some (r_6, m_6)) else b1 (f_X10_pays N v0 v1 m_3) (fun m_4 => gd (okA 12 (gR m_4 v0 20) v2) (some (gI m_4 (gR m_4 v0 20) v2.toNatClampNeg, m_4))))))))
def f_X10_left (N : Nat) (v0 : Nat) (v1 : Int32) (v2 : Int32) (m : Mem) : Option (Int32 × Mem) :=
  gd (kd v0 == 10) (b2 (f_X10_isMode N v0 v1 m) (fun r_2 m_2 => (if r_2 = 0 then some ((0 : Int32), m_2) else b2 (f_X10_isPanel N v0 v2 m_2) (fun r_3 m_3 => (if r_3 = 0 then b2 (f_X10_fails N v0 (2 : Int32) m_3) (fun r_6 m_6 => some (r_6, m_6)) else b1 (f_X10_pays N v0 v1 m_3) (fun m_4 => gd (okA 12 (gR m_4 v0 21) v2) (some (gI m_4 (gR m_4 v0 21) v2.toNatClampNeg, m_4))))))))
def f_X10_poolLeft (N : Nat) (v0 : Nat) (v1 : Int32) (m : Mem) : Option (Int32 × Mem) :=
  gd (kd v0 == 10) (b2 (f_X10_isMode N v0 v1 m) (fun r_2 m_2 => (if r_2 = 0 then some ((0 : Int32), m_2) else b1 (f_X10_pays N v0 v1 m_2) (fun m_3 => some (gI m_3 v0 22, m_3)))))
def f_X10_funded (N : Nat) (v0 : Nat) (v1 : Int32) (m : Mem) : Option (Int32 × Mem) :=
  gd (kd v0 == 10) (b2 (f_X10_isMode N v0 v1 m) (fun r_2 m_2 => (if r_2 = 0 then some ((0 : Int32), m_2) else b1 (f_X10_pays N v0 v1 m_2) (fun m_3 => b2 (f_X10_fundedNow N v0 m_3) (fun r_4 m_4 => some (r_4, m_4))))))
def B_X10_bestSum_201 (N : Nat) (rc : Nat → Int32 → Int32 → Int32 → Int32 → Int32 → Int32 → Mem → Option (Nat × Int32 × Int32 × Int32 × Int32 × Int32 × Mem)) (v0 : Nat) (v1 : Int32) (v2 : Int32) (v3 : Int32) (v4 : Int32) (v6 : Int32) (s0 : Int32) (m : Mem) : Option (Nat × Int32 × Int32 × Int32 × Int32 × Int32 × Mem) :=
  rc v0 v1 v2 v3 v4 (s0 + (0 : Int32)) (v6 + (1 : Int32)) m
def B_X10_bestSum_168 (N : Nat) (rc : Nat → Int32 → Int32 → Int32 → Int32 → Int32 → Int32 → Mem → Option (Nat × Int32 × Int32 × Int32 × Int32 × Int32 × Mem)) (v0 : Nat) (v1 : Int32) (v2 : Int32) (v3 : Int32) (v5 : Int32) (v6 : Int32) (v7 : Int32) (s0 : Int32) (m : Mem) : Option (Nat × Int32 × Int32 × Int32 × Int32 × Int32 × Mem) :=
  b2 (f_X10_has N v3 v6 m) (fun r_15 m_15 => (if r_15 = 0 then B_X10_bestSum_201 N rc v0 v1 v2 v3 s0 v6 v5 m_15 else (if v7 = 0 then B_X10_bestSum_201 N rc v0 v1 v2 v3 s0 v6 v5 m_15 else gd (kd v0 == 10) (gd (okA 12 (gR m_15 v0 17) v6) (gd (okA 12 (gR m_15 v0 18) (gI m_15 (gR m_15 v0 17) v6.toNatClampNeg)) (rc v0 v1 v2 v3 s0 (v5 + (gI m_15 (gR m_15 v0 18) (gI m_15 (gR m_15 v0 17) v6.toNatClampNeg).toNatClampNeg)) (v6 + (1 : Int32)) m_15))))))
def B_X10_bestSum_118 (N : Nat) (rc : Nat → Int32 → Int32 → Int32 → Int32 → Int32 → Int32 → Mem → Option (Nat × Int32 × Int32 × Int32 × Int32 × Int32 × Mem)) (v0 : Nat) (v1 : Int32) (v2 : Int32) (v3 : Int32) (v4 : Int32) (v5 : Int32) (v6 : Int32) (s0 : Int32) (m : Mem) : Option (Nat × Int32 × Int32 × Int32 × Int32 × Int32 × Mem) :=
  b2 (f_X10_has N v3 v6 m) (fun r_12 m_12 => (if r_12 = 0 then B_X10_bestSum_168 N rc v0 v1 v2 v3 v5 v6 s0 v4 m_12 else (if s0 = 0 then gd (kd v0 == 10) (gd (okA 12 (gR m_12 v0 1) ((7 : Int32) + v1)) (B_X10_bestSum_168 N rc v0 v1 v2 v3 v5 v6 s0 ((gI m_12 (gR m_12 v0 1) ((7 : Int32) + v1).toNatClampNeg) + (1 : Int32)) m_12)) else gd (kd v0 == 10) (gd (okA 12 (gR m_12 v0 17) v6) (b2 (f_X10_proposal N v0 (gI m_12 (gR m_12 v0 17) v6.toNatClampNeg) (3 : Int32) m_12) (fun r_23 m_23 => B_X10_bestSum_168 N rc v0 v1 v2 v3 v5 v6 s0 (v4 + r_23) m_23))))))
def B_X10_bestSum_117 (N : Nat) (rc : Nat → Int32 → Int32 → Int32 → Int32 → Int32 → Int32 → Mem → Option (Nat × Int32 × Int32 × Int32 × Int32 × Int32 × Mem)) (v0 : Nat) (v1 : Int32) (v2 : Int32) (v3 : Int32) (v4 : Int32) (v5 : Int32) (v6 : Int32) (m : Mem) : Option (Nat × Int32 × Int32 × Int32 × Int32 × Int32 × Mem) :=
  B_X10_bestSum_118 N rc v0 v1 v2 v3 v4 v5 v6 (0 : Int32) m
def T_X10_bestSum_53 (N : Nat) (rc : Nat → Int32 → Int32 → Int32 → Int32 → Int32 → Int32 → Mem → Option (Nat × Int32 × Int32 × Int32 × Int32 × Int32 × Mem)) (v0 : Nat) (v1 : Int32) (v2 : Int32) (v3 : Int32) (v4 : Int32) (v5 : Int32) (v6 : Int32) (m : Mem) : Option (Nat × Int32 × Int32 × Int32 × Int32 × Int32 × Mem) :=
  gd (kd v0 == 10) ((if (gI m v0 19) ≤ v6 then some ((v0, v1, v2, v3, v4, v5, m)) else gd (okA 12 (gR m v0 1) ((7 : Int32) + v1)) ((if (gI m (gR m v0 1) ((7 : Int32) + v1).toNatClampNeg) < v4 then some ((v0, v1, v2, v3, v4, v5, m)) else gd (okA 12 (gR m v0 17) v6) (b2 (f_X10_proposal N v0 (gI m (gR m v0 17) v6.toNatClampNeg) (0 : Int32) m) (fun r_11 m_11 => (if r_11 = v1 then gd (okA 12 (gR m_11 v0 17) v6) (gd (okA 12 (gR m_11 v0 18) (gI m_11 (gR m_11 v0 17) v6.toNatClampNeg)) (gd (okA 12 (gR m_11 v0 3) (0 : Int32)) ((if (gI m_11 (gR m_11 v0 18) (gI m_11 (gR m_11 v0 17) v6.toNatClampNeg).toNatClampNeg) < (gI m_11 (gR m_11 v0 3) (0 : Int32).toNatClampNeg) then B_X10_bestSum_117 N rc v0 v1 v2 v3 v4 v5 v6 m_11 else B_X10_bestSum_118 N rc v0 v1 v2 v3 v4 v5 v6 (1 : Int32) m_11)))) else B_X10_bestSum_117 N rc v0 v1 v2 v3 v4 v5 v6 m_11)))))))
def L_X10_bestSum_53 (N : Nat) : Nat → Nat → Int32 → Int32 → Int32 → Int32 → Int32 → Int32 → Mem → Option (Nat × Int32 × Int32 × Int32 × Int32 × Int32 × Mem)
  | 0 => fun _ _ _ _ _ _ _ _ => none
  | n + 1 => T_X10_bestSum_53 N (L_X10_bestSum_53 N n)
def B_X10_bestSum_236 (N : Nat) (rc : Nat → Int32 → Int32 → Int32 → Mem → Option (Int32 × Mem)) (v0 : Nat) (v1 : Int32) (v2 : Int32) (v3 : Int32) (m : Mem) : Option (Int32 × Mem) :=
  rc v0 v1 v2 (v3 + (1 : Int32)) m
def B_X10_bestSum_211 (N : Nat) (rc : Nat → Int32 → Int32 → Int32 → Mem → Option (Int32 × Mem)) (v0 : Nat) (v1 : Int32) (v2 : Int32) (v3 : Int32) (v4 : Int32) (v5 : Int32) (m : Mem) : Option (Int32 × Mem) :=
  gd (kd v0 == 10) (gd (okA 12 (gR m v0 1) ((7 : Int32) + v1)) ((if (gI m (gR m v0 1) ((7 : Int32) + v1).toNatClampNeg) < v4 then B_X10_bestSum_236 N rc v0 v1 v2 v3 m else (if v5 ≤ v2 then B_X10_bestSum_236 N rc v0 v1 v2 v3 m else rc v0 v1 v5 (v3 + (1 : Int32)) m))))
def T_X10_bestSum_34 (N : Nat) (rc : Nat → Int32 → Int32 → Int32 → Mem → Option (Int32 × Mem)) (v0 : Nat) (v1 : Int32) (v2 : Int32) (v3 : Int32) (m : Mem) : Option (Int32 × Mem) :=
  gd (kd v0 == 10) ((if ((1 : Int32) <<< ((gI m v0 19) &&& 31)) ≤ v3 then some ((v2, m)) else l7 (L_X10_bestSum_53 N N v0 v1 v2 v3 (0 : Int32) (0 : Int32) (0 : Int32) m) (fun v0_33 v1_33 v2_33 v3_33 v4_33 v5_33 m_33 => B_X10_bestSum_211 N rc v0_33 v1_33 v2_33 v3_33 v4_33 v5_33 m_33)))
def L_X10_bestSum_34 (N : Nat) : Nat → Nat → Int32 → Int32 → Int32 → Mem → Option (Int32 × Mem)
  | 0 => fun _ _ _ _ _ => none
  | n + 1 => T_X10_bestSum_34 N (L_X10_bestSum_34 N n)
def B_X10_bestSum_14 (N : Nat) (v0 : Nat) (v1 : Int32) (s0 : Int32) (s1 : Nat) (m : Mem) : Option (Int32 × Mem) :=
  gd (kd s1 == 10) (wr (sI m s1 0 s0) (fun m_4 => gd (kd v0 == 10) ((if (gI m_4 v0 0) ≤ 0 then b1 (f_X10_laysOrder N v0 m_4) (fun m_6 => l2 (L_X10_bestSum_34 N N v0 v1 (0 : Int32) (0 : Int32) m_6) (fun v2_39 m_39 => some (v2_39, m_39))) else some ((0 : Int32), m_4)))))
def f_X10_bestSum (N : Nat) (v0 : Nat) (v1 : Int32) (m : Mem) : Option (Int32 × Mem) :=
  gd (kd v0 == 10) (b2 (f_X10_isPanel N v0 v1 m) (fun r_2 m_2 => (if r_2 = 0 then B_X10_bestSum_14 N v0 v1 (1 : Int32) v0 m_2 else B_X10_bestSum_14 N v0 v1 (0 : Int32) v0 m_2)))
def B_X10_lineFor_121 (N : Nat) (rc : Nat → Int32 → Int32 → Int32 → Int32 → Mem → Option (Int32 × Mem)) (v0 : Nat) (v1 : Int32) (v2 : Int32) (v4 : Int32) (s0 : Int32) (m : Mem) : Option (Int32 × Mem) :=
  rc v0 v1 v2 s0 (v4 + (1 : Int32)) m
def B_X10_lineFor_89 (N : Nat) (rc : Nat → Int32 → Int32 → Int32 → Int32 → Mem → Option (Int32 × Mem)) (v0 : Nat) (v1 : Int32) (v2 : Int32) (v3 : Int32) (v4 : Int32) (s0 : Int32) (m : Mem) : Option (Int32 × Mem) :=
  (if s0 ≤ v3 then rc v0 v1 v2 v3 (v4 + (1 : Int32)) m else gd (kd v0 == 10) (b1 (f_X10_fundsAll N v0 v1 s0 m) (fun m_10 => b2 (f_X10_fundedNow N v0 m_10) (fun r_11 m_11 => b2 (f_X10_bits N r_11 m_11) (fun r_12 m_12 => (if r_12 < v2 then B_X10_lineFor_121 N rc v0 v1 v2 v4 v3 m_12 else B_X10_lineFor_121 N rc v0 v1 v2 v4 s0 m_12))))))
def T_X10_lineFor_46 (N : Nat) (rc : Nat → Int32 → Int32 → Int32 → Int32 → Mem → Option (Int32 × Mem)) (v0 : Nat) (v1 : Int32) (v2 : Int32) (v3 : Int32) (v4 : Int32) (m : Mem) : Option (Int32 × Mem) :=
  gd (kd v0 == 10) ((if (gI m v0 19) ≤ v4 then some ((v3, m)) else gd (okA 12 (gR m v0 17) v4) (gd (okA 12 (gR m v0 18) (gI m (gR m v0 17) v4.toNatClampNeg)) ((if (gI m (gR m v0 18) (gI m (gR m v0 17) v4.toNatClampNeg).toNatClampNeg) ≤ (100000 : Int32) then B_X10_lineFor_89 N rc v0 v1 v2 v3 v4 (gI m (gR m v0 18) (gI m (gR m v0 17) v4.toNatClampNeg).toNatClampNeg) m else B_X10_lineFor_89 N rc v0 v1 v2 v3 v4 (100000 : Int32) m)))))
def L_X10_lineFor_46 (N : Nat) : Nat → Nat → Int32 → Int32 → Int32 → Int32 → Mem → Option (Int32 × Mem)
  | 0 => fun _ _ _ _ _ _ => none
  | n + 1 => T_X10_lineFor_46 N (L_X10_lineFor_46 N n)
def B_X10_lineFor_25 (N : Nat) (v0 : Nat) (v1 : Int32) (v2 : Int32) (s0 : Int32) (s1 : Nat) (m : Mem) : Option (Int32 × Mem) :=
  gd (kd s1 == 10) (wr (sI m s1 0 s0) (fun m_3 => gd (kd v0 == 10) ((if (gI m_3 v0 0) ≤ 0 then b1 (f_X10_laysOrder N v0 m_3) (fun m_5 => l2 (L_X10_lineFor_46 N N v0 v1 v2 (-1 : Int32) (0 : Int32) m_5) (fun v3_17 m_17 => some (v3_17, m_17))) else some ((0 : Int32), m_3)))))
def B_X10_lineFor_24 (N : Nat) (v0 : Nat) (v1 : Int32) (v2 : Int32) (s0 : Nat) (m : Mem) : Option (Int32 × Mem) :=
  B_X10_lineFor_25 N v0 v1 v2 (1 : Int32) s0 m
def f_X10_lineFor (N : Nat) (v0 : Nat) (v1 : Int32) (v2 : Int32) (m : Mem) : Option (Int32 × Mem) :=
  b2 (f_X10_in N v1 (0 : Int32) (2 : Int32) m) (fun r_1 m_1 => (if r_1 = 0 then B_X10_lineFor_24 N v0 v1 v2 v0 m_1 else b2 (f_X10_in N v2 (1 : Int32) (16 : Int32) m_1) (fun r_19 m_19 => (if r_19 = 0 then B_X10_lineFor_24 N v0 v1 v2 v0 m_19 else B_X10_lineFor_25 N v0 v1 v2 (0 : Int32) v0 m_19))))
def T_X10_appeal_73 (N : Nat) (rc : Nat → Int32 → Int32 → Int32 → Int32 → Int32 → Mem → Option (Nat × Int32 × Int32 × Int32 × Int32 × Mem)) (v0 : Nat) (v1 : Int32) (v2 : Int32) (v3 : Int32) (v4 : Int32) (v5 : Int32) (m : Mem) : Option (Nat × Int32 × Int32 × Int32 × Int32 × Mem) :=
  gd (kd v0 == 10) (gd (okA 12 (gR m v0 1) (1 : Int32)) ((if (gI m (gR m v0 1) (1 : Int32).toNatClampNeg) ≤ v5 then some ((v0, v1, v2, v3, v4, m)) else (if v5 = v1 then rc v0 v1 v2 v3 (v4 + (0 : Int32)) (v5 + (1 : Int32)) m else b2 (f_X10_score N v0 v5 v2 m) (fun r_10 m_10 => rc v0 v1 v2 v3 (v4 + r_10) (v5 + (1 : Int32)) m_10)))))
def L_X10_appeal_73 (N : Nat) : Nat → Nat → Int32 → Int32 → Int32 → Int32 → Int32 → Mem → Option (Nat × Int32 × Int32 × Int32 × Int32 × Mem)
  | 0 => fun _ _ _ _ _ _ _ => none
  | n + 1 => T_X10_appeal_73 N (L_X10_appeal_73 N n)
def B_X10_appeal_138 (N : Nat) (v0 : Nat) (v1 : Int32) (v2 : Int32) (v3 : Int32) (s0 : Int32) (m : Mem) : Option (Int32 × Mem) :=
  gd (kd v0 == 10) (gd (okA 12 (gR m v0 1) (6 : Int32)) ((if (v3 * (gI m (gR m v0 1) (6 : Int32).toNatClampNeg)) < s0 then b1 (f_X10_keeps N v0 m) (fun m_18 => b1 (f_X10_removes N v0 v1 v2 m_18) (fun m_19 => gd (okA 12 (gR m_19 v0 3) ((2 : Int32) + v1)) (wr (sI m_19 (gR m_19 v0 3) ((2 : Int32) + v1).toNatClampNeg ((gI m_19 (gR m_19 v0 3) ((2 : Int32) + v1).toNatClampNeg) ||| ((1 : Int32) <<< (v2 &&& 31)))) (fun m_21 => gd (okA 12 (gR m_21 v0 3) (1 : Int32)) (wr (sI m_21 (gR m_21 v0 3) (1 : Int32).toNatClampNeg ((gI m_21 (gR m_21 v0 3) (1 : Int32).toNatClampNeg) ||| ((1 : Int32) <<< (v2 &&& 31)))) (fun m_23 => gd (isB (1 : Int32)) (some ((1 : Int32), m_23)))))))) else gd (isB (0 : Int32)) (some ((0 : Int32), m)))))
def B_X10_appeal_55 (N : Nat) (v0 : Nat) (v1 : Int32) (v2 : Int32) (v3 : Int32) (s0 : Int32) (s1 : Nat) (m : Mem) : Option (Int32 × Mem) :=
  gd (kd s1 == 10) (wr (sI m s1 0 s0) (fun m_6 => gd (kd v0 == 10) ((if (gI m_6 v0 0) ≤ 0 then l6 (L_X10_appeal_73 N N v0 v1 v2 v3 (0 : Int32) (0 : Int32) m_6) (fun v0_13 v1_13 v2_13 v3_13 v4_13 m_13 => gd (kd v0_13 == 10) (b2 (f_X10_score N v0_13 v1_13 v2_13 m_13) (fun r_15 m_15 => (if 0 ≤ ((v3_13 * r_15) - v4_13) then B_X10_appeal_138 N v0_13 v1_13 v2_13 v3_13 ((v3_13 * r_15) - v4_13) m_15 else B_X10_appeal_138 N v0_13 v1_13 v2_13 v3_13 (-((v3_13 * r_15) - v4_13)) m_15)))) else gd (isB (0 : Int32)) (some ((0 : Int32), m_6))))))
def B_X10_appeal_50 (N : Nat) (v0 : Nat) (v1 : Int32) (v2 : Int32) (v3 : Int32) (s0 : Nat) (m : Mem) : Option (Int32 × Mem) :=
  B_X10_appeal_55 N v0 v1 v2 v3 (3 : Int32) s0 m
def f_X10_appeal (N : Nat) (v0 : Nat) (v1 : Int32) (v2 : Int32) (m : Mem) : Option (Int32 × Mem) :=
  gd (kd v0 == 10) (b2 (f_X10_areBoth N v0 v1 v2 m) (fun r_2 m_2 => (if r_2 = 0 then gd (isB (0 : Int32)) (some ((0 : Int32), m_2)) else b2 (f_X10_scoresOf N v0 v2 m_2) (fun r_3 m_3 => b2 (f_X10_isScored N v0 v1 v2 m_3) (fun r_4 m_4 => (if r_4 = 0 then B_X10_appeal_55 N v0 v1 v2 (r_3 - (1 : Int32)) (2 : Int32) v0 m_4 else (if (r_3 - (1 : Int32)) = 0 then B_X10_appeal_50 N v0 v1 v2 (r_3 - (1 : Int32)) v0 m_4 else gd (okA 12 (gR m_4 v0 3) (1 : Int32)) (b2 (f_X10_has N (gI m_4 (gR m_4 v0 3) (1 : Int32).toNatClampNeg) v2 m_4) (fun r_31 m_31 => (if r_31 = 0 then B_X10_appeal_55 N v0 v1 v2 (r_3 - (1 : Int32)) (0 : Int32) v0 m_31 else B_X10_appeal_50 N v0 v1 v2 (r_3 - (1 : Int32)) v0 m_31))))))))))
